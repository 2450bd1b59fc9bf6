/-! paths of the methods (printed by a program) -/
theorem p_X9_played_38FFFFTFF_L38 {ex : Ex} {v1 : Value} {x2 : Int32} {x3 : Int32} {x4 : Int32} {x5 : Int32} {x6 : Int32} {x7 : Int32} {v8 : Value} {v9 : Value} {v10 : Value} {v11 : Value} {r1 : Int32} {w1 : Wd} {w2 : Wd} {w : Wd} (h1 : ¬ x6 < 0) (h2 : (x6 - x6 / 2 * 2) = 0) (h3 : x6 = x4) (h4 : (1 : Int32) = 0) (h5 : vp_in x6 4) (h6 : ¬ (w.1 51 x6.toNatClampNeg) = 7) (h7 : ¬ (0 : Int32) = 0) (h8 : ¬ (1 : Int32) = 0) (h9 : vp_in x4 5) (h10 : ex 156 [.ref 34, .int (w.1 50 x4.toNatClampNeg)] w = some (some (.int r1), w1)) (h11 : ex 188 [.ref 34, .int (x6 + (-1)), .int ((r1 >>> (x5 &&& 31)) &&& 1)] w1 = some (none, w2)) : runs (T_X9_played ex) (38, [.ref 34, v1, .int x2, .int x3, .int x4, .int x5, .int x6, .int x7, v8, v9, v10, v11], [], w) = runs (T_X9_played ex) (38, [.ref 34, .null, .int x2, .int x3, .int x4, .int x5, .int (x6 + (-1)), .int ((r1 >>> (x5 &&& 31)) &&& 1), .null, .null, .null, .null], [], w2) := 
    (runs_stps (q' := (40, [.ref 34, .null, .int x2, .int x3, .int x4, .int x5, .int x6, .int x7, .null, .null, .null, .null], [.int x6], w)) 1 rfl).trans <|
    (runs_if_f (a := 288) (b := 43) (L := [.ref 34, .null, .int x2, .int x3, .int x4, .int x5, .int x6, .int x7, .null, .null, .null, .null]) (st := []) (w := w) rfl h1).trans <|
    (runs_stps (q' := (47, [.ref 34, .null, .int x2, .int x3, .int x4, .int x5, .int x6, .int x7, .null, .null, .null, .null], [.int (x6 - x6 / 2 * 2)], w)) 3 rfl).trans <|
    (runs_if_t (a := 50) (b := 54) (L := [.ref 34, .null, .int x2, .int x3, .int x4, .int x5, .int x6, .int x7, .null, .null, .null, .null]) (st := []) (w := w) rfl h2).trans <|
    (runs_stps (q' := (61, [.ref 34, .null, .int x2, .int x3, .int x4, .int x5, .int x6, .int x7, .int x2, .null, .null, .null], [.int x4, .int x6], w)) 5 rfl).trans <|
    (runs_if_t (a := 64) (b := 68) (L := [.ref 34, .null, .int x2, .int x3, .int x4, .int x5, .int x6, .int x7, .int x2, .null, .null, .null]) (st := []) (w := w) rfl h3).trans <|
    (runs_stps (q' := (73, [.ref 34, .null, .int x2, .int x3, .int x4, .int x5, .int x6, .int x7, .int x2, .int 1, .null, .null], [.int 1], w)) 4 rfl).trans <|
    (runs_if_t (a := 76) (b := 88) (L := [.ref 34, .null, .int x2, .int x3, .int x4, .int x5, .int x6, .int x7, .int x2, .int 1, .null, .null]) (st := []) (w := w) rfl h4).trans <|
    (runs_stps (q' := (82, [.ref 34, .null, .int x2, .int x3, .int x4, .int x5, .int x6, .int x7, .int x2, .int 1, .null, .null], [.int x6, .ref 51], w)) 3 rfl).trans <|
    (runs_ck (q' := (83, [.ref 34, .null, .int x2, .int x3, .int x4, .int x5, .int x6, .int x7, .int x2, .int 1, .null, .null], [.int (w.1 51 x6.toNatClampNeg)], w)) rfl h5).trans <|
    (runs_stps (q' := (85, [.ref 34, .null, .int x2, .int x3, .int x4, .int x5, .int x6, .int x7, .int x2, .int 1, .null, .null], [.int 7, .int (w.1 51 x6.toNatClampNeg)], w)) 1 rfl).trans <|
    (runs_if_f (a := 88) (b := 92) (L := [.ref 34, .null, .int x2, .int x3, .int x4, .int x5, .int x6, .int x7, .int x2, .int 1, .null, .null]) (st := []) (w := w) rfl h6).trans <|
    (runs_stps (q' := (97, [.ref 34, .null, .int x2, .int x3, .int x4, .int x5, .int x6, .int x7, .int x2, .int 1, .int 0, .null], [.int 0], w)) 3 rfl).trans <|
    (runs_if_f (a := 174) (b := 100) (L := [.ref 34, .null, .int x2, .int x3, .int x4, .int x5, .int x6, .int x7, .int x2, .int 1, .int 0, .null]) (st := []) (w := w) rfl h7).trans <|
    (runs_stps (q' := (102, [.ref 34, .null, .int x2, .int x3, .int x4, .int x5, .int x6, .int x7, .int x2, .int 1, .int 0, .null], [.int 1], w)) 1 rfl).trans <|
    (runs_if_f (a := 124) (b := 105) (L := [.ref 34, .null, .int x2, .int x3, .int x4, .int x5, .int x6, .int x7, .int x2, .int 1, .int 0, .null]) (st := []) (w := w) rfl h8).trans <|
    (runs_stps (q' := (112, [.ref 34, .null, .int x2, .int x3, .int x4, .int x5, .int x6, .int x7, .int x2, .int 1, .int 0, .null], [.int x4, .ref 50, .ref 34], w)) 4 rfl).trans <|
    (runs_ck (q' := (113, [.ref 34, .null, .int x2, .int x3, .int x4, .int x5, .int x6, .int x7, .int x2, .int 1, .int 0, .null], [.int (w.1 50 x4.toNatClampNeg), .ref 34], w)) rfl h9).trans <|
    (runs_callV (rv := some (.int r1)) (w' := w1) rfl rfl rfl rfl h10).trans <|
    (runs_stps (q' := (168, [.ref 34, .null, .int x2, .int x3, .int x4, .int x5, .int (x6 + (-1)), .int ((r1 >>> (x5 &&& 31)) &&& 1), .null, .null, .null, .null], [.int ((r1 >>> (x5 &&& 31)) &&& 1), .int (x6 + (-1)), .ref 34], w1)) 10 rfl).trans <|
    (runs_callV (rv := none) (w' := w2) rfl rfl rfl rfl h11).trans <|
    (runs_stps (q' := (38, [.ref 34, .null, .int x2, .int x3, .int x4, .int x5, .int (x6 + (-1)), .int ((r1 >>> (x5 &&& 31)) &&& 1), .null, .null, .null, .null], [], w2)) 2 rfl).trans <|
    rfl
theorem p_X9_played_38FFFFFTTT_L38 {ex : Ex} {v1 : Value} {x2 : Int32} {x3 : Int32} {x4 : Int32} {x5 : Int32} {x6 : Int32} {x7 : Int32} {v8 : Value} {v9 : Value} {v10 : Value} {v11 : Value} {r1 : Int32} {w1 : Wd} {w : Wd} (h1 : ¬ x6 < 0) (h2 : (x6 - x6 / 2 * 2) = 0) (h3 : x6 = x4) (h4 : (1 : Int32) = 0) (h5 : vp_in x6 4) (h6 : (w.1 51 x6.toNatClampNeg) = 7) (h7 : (1 : Int32) = 0) (h8 : vp_in x6 4) (h9 : vp_in x6 4) (h10 : vp_in x6 4) (h11 : ¬ ((updI w 51 x6.toNatClampNeg ((w.1 51 x6.toNatClampNeg) + 1)).1 51 x6.toNatClampNeg) = 7) (h12 : vp_in x6 5) (h13 : vp_in x6 4) (h14 : ex 171 [.ref 34, .int (w.1 50 x6.toNatClampNeg), .int ((updI w 51 x6.toNatClampNeg ((w.1 51 x6.toNatClampNeg) + 1)).1 51 x6.toNatClampNeg), .int (1 <<< (x2 &&& 31))] (updI w 51 x6.toNatClampNeg ((w.1 51 x6.toNatClampNeg) + 1)) = some (some (.int r1), w1)) (h15 : r1 = (-9)) : runs (T_X9_played ex) (38, [.ref 34, v1, .int x2, .int x3, .int x4, .int x5, .int x6, .int x7, v8, v9, v10, v11], [], w) = runs (T_X9_played ex) (38, [.ref 34, .null, .int x2, .int x3, .int x4, .int x5, .int x6, .int x7, .null, .null, .null, .null], [], w1) := 
    (runs_stps (q' := (40, [.ref 34, .null, .int x2, .int x3, .int x4, .int x5, .int x6, .int x7, .null, .null, .null, .null], [.int x6], w)) 1 rfl).trans <|
    (runs_if_f (a := 288) (b := 43) (L := [.ref 34, .null, .int x2, .int x3, .int x4, .int x5, .int x6, .int x7, .null, .null, .null, .null]) (st := []) (w := w) rfl h1).trans <|
    (runs_stps (q' := (47, [.ref 34, .null, .int x2, .int x3, .int x4, .int x5, .int x6, .int x7, .null, .null, .null, .null], [.int (x6 - x6 / 2 * 2)], w)) 3 rfl).trans <|
    (runs_if_t (a := 50) (b := 54) (L := [.ref 34, .null, .int x2, .int x3, .int x4, .int x5, .int x6, .int x7, .null, .null, .null, .null]) (st := []) (w := w) rfl h2).trans <|
    (runs_stps (q' := (61, [.ref 34, .null, .int x2, .int x3, .int x4, .int x5, .int x6, .int x7, .int x2, .null, .null, .null], [.int x4, .int x6], w)) 5 rfl).trans <|
    (runs_if_t (a := 64) (b := 68) (L := [.ref 34, .null, .int x2, .int x3, .int x4, .int x5, .int x6, .int x7, .int x2, .null, .null, .null]) (st := []) (w := w) rfl h3).trans <|
    (runs_stps (q' := (73, [.ref 34, .null, .int x2, .int x3, .int x4, .int x5, .int x6, .int x7, .int x2, .int 1, .null, .null], [.int 1], w)) 4 rfl).trans <|
    (runs_if_t (a := 76) (b := 88) (L := [.ref 34, .null, .int x2, .int x3, .int x4, .int x5, .int x6, .int x7, .int x2, .int 1, .null, .null]) (st := []) (w := w) rfl h4).trans <|
    (runs_stps (q' := (82, [.ref 34, .null, .int x2, .int x3, .int x4, .int x5, .int x6, .int x7, .int x2, .int 1, .null, .null], [.int x6, .ref 51], w)) 3 rfl).trans <|
    (runs_ck (q' := (83, [.ref 34, .null, .int x2, .int x3, .int x4, .int x5, .int x6, .int x7, .int x2, .int 1, .null, .null], [.int (w.1 51 x6.toNatClampNeg)], w)) rfl h5).trans <|
    (runs_stps (q' := (85, [.ref 34, .null, .int x2, .int x3, .int x4, .int x5, .int x6, .int x7, .int x2, .int 1, .null, .null], [.int 7, .int (w.1 51 x6.toNatClampNeg)], w)) 1 rfl).trans <|
    (runs_if_t (a := 88) (b := 92) (L := [.ref 34, .null, .int x2, .int x3, .int x4, .int x5, .int x6, .int x7, .int x2, .int 1, .null, .null]) (st := []) (w := w) rfl h6).trans <|
    (runs_stps (q' := (97, [.ref 34, .null, .int x2, .int x3, .int x4, .int x5, .int x6, .int x7, .int x2, .int 1, .int 1, .null], [.int 1], w)) 4 rfl).trans <|
    (runs_if_t (a := 174) (b := 100) (L := [.ref 34, .null, .int x2, .int x3, .int x4, .int x5, .int x6, .int x7, .int x2, .int 1, .int 1, .null]) (st := []) (w := w) rfl h7).trans <|
    (runs_stps (q' := (181, [.ref 34, .null, .int x2, .int x3, .int x4, .int x5, .int x6, .int x7, .int x2, .null, .null, .null], [.int x6, .ref 51, .int x6, .ref 51], w)) 4 rfl).trans <|
    (runs_ck (q' := (182, [.ref 34, .null, .int x2, .int x3, .int x4, .int x5, .int x6, .int x7, .int x2, .null, .null, .null], [.int (w.1 51 x6.toNatClampNeg), .int x6, .ref 51], w)) rfl h8).trans <|
    (runs_stps (q' := (184, [.ref 34, .null, .int x2, .int x3, .int x4, .int x5, .int x6, .int x7, .int x2, .null, .null, .null], [.int ((w.1 51 x6.toNatClampNeg) + 1), .int x6, .ref 51], w)) 2 rfl).trans <|
    (runs_ck (q' := (185, [.ref 34, .null, .int x2, .int x3, .int x4, .int x5, .int x6, .int x7, .int x2, .null, .null, .null], [], updI w 51 x6.toNatClampNeg ((w.1 51 x6.toNatClampNeg) + 1))) rfl h9).trans <|
    (runs_stps (q' := (191, [.ref 34, .null, .int x2, .int x3, .int x4, .int x5, .int x6, .int x7, .int x2, .null, .null, .null], [.int x6, .ref 51], updI w 51 x6.toNatClampNeg ((w.1 51 x6.toNatClampNeg) + 1))) 3 rfl).trans <|
    (runs_ck (q' := (192, [.ref 34, .null, .int x2, .int x3, .int x4, .int x5, .int x6, .int x7, .int x2, .null, .null, .null], [.int ((updI w 51 x6.toNatClampNeg ((w.1 51 x6.toNatClampNeg) + 1)).1 51 x6.toNatClampNeg)], updI w 51 x6.toNatClampNeg ((w.1 51 x6.toNatClampNeg) + 1))) rfl h10).trans <|
    (runs_stps (q' := (194, [.ref 34, .null, .int x2, .int x3, .int x4, .int x5, .int x6, .int x7, .int x2, .null, .null, .null], [.int 7, .int ((updI w 51 x6.toNatClampNeg ((w.1 51 x6.toNatClampNeg) + 1)).1 51 x6.toNatClampNeg)], updI w 51 x6.toNatClampNeg ((w.1 51 x6.toNatClampNeg) + 1))) 1 rfl).trans <|
    (runs_if_f (a := 197) (b := 207) (L := [.ref 34, .null, .int x2, .int x3, .int x4, .int x5, .int x6, .int x7, .int x2, .null, .null, .null]) (st := []) (w := updI w 51 x6.toNatClampNeg ((w.1 51 x6.toNatClampNeg) + 1)) rfl h11).trans <|
    (runs_stps (q' := (214, [.ref 34, .null, .int x2, .int x3, .int x4, .int x5, .int x6, .int x7, .int x2, .null, .null, .null], [.int x6, .ref 50, .ref 34], updI w 51 x6.toNatClampNeg ((w.1 51 x6.toNatClampNeg) + 1))) 4 rfl).trans <|
    (runs_ck (q' := (215, [.ref 34, .null, .int x2, .int x3, .int x4, .int x5, .int x6, .int x7, .int x2, .null, .null, .null], [.int (w.1 50 x6.toNatClampNeg), .ref 34], updI w 51 x6.toNatClampNeg ((w.1 51 x6.toNatClampNeg) + 1))) rfl h12).trans <|
    (runs_stps (q' := (221, [.ref 34, .null, .int x2, .int x3, .int x4, .int x5, .int x6, .int x7, .int x2, .null, .null, .null], [.int x6, .ref 51, .int (w.1 50 x6.toNatClampNeg), .ref 34], updI w 51 x6.toNatClampNeg ((w.1 51 x6.toNatClampNeg) + 1))) 3 rfl).trans <|
    (runs_ck (q' := (222, [.ref 34, .null, .int x2, .int x3, .int x4, .int x5, .int x6, .int x7, .int x2, .null, .null, .null], [.int ((updI w 51 x6.toNatClampNeg ((w.1 51 x6.toNatClampNeg) + 1)).1 51 x6.toNatClampNeg), .int (w.1 50 x6.toNatClampNeg), .ref 34], updI w 51 x6.toNatClampNeg ((w.1 51 x6.toNatClampNeg) + 1))) rfl h13).trans <|
    (runs_stps (q' := (226, [.ref 34, .null, .int x2, .int x3, .int x4, .int x5, .int x6, .int x7, .int x2, .null, .null, .null], [.int (1 <<< (x2 &&& 31)), .int ((updI w 51 x6.toNatClampNeg ((w.1 51 x6.toNatClampNeg) + 1)).1 51 x6.toNatClampNeg), .int (w.1 50 x6.toNatClampNeg), .ref 34], updI w 51 x6.toNatClampNeg ((w.1 51 x6.toNatClampNeg) + 1))) 3 rfl).trans <|
    (runs_callV (rv := some (.int r1)) (w' := w1) rfl rfl rfl rfl h14).trans <|
    (runs_stps (q' := (235, [.ref 34, .null, .int x2, .int x3, .int x4, .int x5, .int x6, .int x7, .null, .null, .null, .int r1], [.int (-9), .int r1], w1)) 3 rfl).trans <|
    (runs_if_t (a := 285) (b := 238) (L := [.ref 34, .null, .int x2, .int x3, .int x4, .int x5, .int x6, .int x7, .null, .null, .null, .int r1]) (st := []) (w := w1) rfl h15).trans <|
    (runs_stps (q' := (38, [.ref 34, .null, .int x2, .int x3, .int x4, .int x5, .int x6, .int x7, .null, .null, .null, .null], [], w1)) 1 rfl).trans <|
    rfl
theorem p_X9_played_38FFFFFTTFT_L38 {ex : Ex} {v1 : Value} {x2 : Int32} {x3 : Int32} {x4 : Int32} {x5 : Int32} {x6 : Int32} {x7 : Int32} {v8 : Value} {v9 : Value} {v10 : Value} {v11 : Value} {r1 : Int32} {w1 : Wd} {w : Wd} (h1 : ¬ x6 < 0) (h2 : (x6 - x6 / 2 * 2) = 0) (h3 : x6 = x4) (h4 : (1 : Int32) = 0) (h5 : vp_in x6 4) (h6 : (w.1 51 x6.toNatClampNeg) = 7) (h7 : (1 : Int32) = 0) (h8 : vp_in x6 4) (h9 : vp_in x6 4) (h10 : vp_in x6 4) (h11 : ¬ ((updI w 51 x6.toNatClampNeg ((w.1 51 x6.toNatClampNeg) + 1)).1 51 x6.toNatClampNeg) = 7) (h12 : vp_in x6 5) (h13 : vp_in x6 4) (h14 : ex 171 [.ref 34, .int (w.1 50 x6.toNatClampNeg), .int ((updI w 51 x6.toNatClampNeg ((w.1 51 x6.toNatClampNeg) + 1)).1 51 x6.toNatClampNeg), .int (1 <<< (x2 &&& 31))] (updI w 51 x6.toNatClampNeg ((w.1 51 x6.toNatClampNeg) + 1)) = some (some (.int r1), w1)) (h15 : ¬ r1 = (-9)) (h16 : vp_in (x6 + 1) 5) (h17 : x4 ≤ (x6 + 1)) : runs (T_X9_played ex) (38, [.ref 34, v1, .int x2, .int x3, .int x4, .int x5, .int x6, .int x7, v8, v9, v10, v11], [], w) = runs (T_X9_played ex) (38, [.ref 34, .null, .int x2, .int x3, .int x4, .int x5, .int (x6 + 1), .int x7, .null, .null, .null, .null], [], updI w1 50 ((x6 + 1).toNatClampNeg) r1) := 
    (runs_stps (q' := (40, [.ref 34, .null, .int x2, .int x3, .int x4, .int x5, .int x6, .int x7, .null, .null, .null, .null], [.int x6], w)) 1 rfl).trans <|
    (runs_if_f (a := 288) (b := 43) (L := [.ref 34, .null, .int x2, .int x3, .int x4, .int x5, .int x6, .int x7, .null, .null, .null, .null]) (st := []) (w := w) rfl h1).trans <|
    (runs_stps (q' := (47, [.ref 34, .null, .int x2, .int x3, .int x4, .int x5, .int x6, .int x7, .null, .null, .null, .null], [.int (x6 - x6 / 2 * 2)], w)) 3 rfl).trans <|
    (runs_if_t (a := 50) (b := 54) (L := [.ref 34, .null, .int x2, .int x3, .int x4, .int x5, .int x6, .int x7, .null, .null, .null, .null]) (st := []) (w := w) rfl h2).trans <|
    (runs_stps (q' := (61, [.ref 34, .null, .int x2, .int x3, .int x4, .int x5, .int x6, .int x7, .int x2, .null, .null, .null], [.int x4, .int x6], w)) 5 rfl).trans <|
    (runs_if_t (a := 64) (b := 68) (L := [.ref 34, .null, .int x2, .int x3, .int x4, .int x5, .int x6, .int x7, .int x2, .null, .null, .null]) (st := []) (w := w) rfl h3).trans <|
    (runs_stps (q' := (73, [.ref 34, .null, .int x2, .int x3, .int x4, .int x5, .int x6, .int x7, .int x2, .int 1, .null, .null], [.int 1], w)) 4 rfl).trans <|
    (runs_if_t (a := 76) (b := 88) (L := [.ref 34, .null, .int x2, .int x3, .int x4, .int x5, .int x6, .int x7, .int x2, .int 1, .null, .null]) (st := []) (w := w) rfl h4).trans <|
    (runs_stps (q' := (82, [.ref 34, .null, .int x2, .int x3, .int x4, .int x5, .int x6, .int x7, .int x2, .int 1, .null, .null], [.int x6, .ref 51], w)) 3 rfl).trans <|
    (runs_ck (q' := (83, [.ref 34, .null, .int x2, .int x3, .int x4, .int x5, .int x6, .int x7, .int x2, .int 1, .null, .null], [.int (w.1 51 x6.toNatClampNeg)], w)) rfl h5).trans <|
    (runs_stps (q' := (85, [.ref 34, .null, .int x2, .int x3, .int x4, .int x5, .int x6, .int x7, .int x2, .int 1, .null, .null], [.int 7, .int (w.1 51 x6.toNatClampNeg)], w)) 1 rfl).trans <|
    (runs_if_t (a := 88) (b := 92) (L := [.ref 34, .null, .int x2, .int x3, .int x4, .int x5, .int x6, .int x7, .int x2, .int 1, .null, .null]) (st := []) (w := w) rfl h6).trans <|
    (runs_stps (q' := (97, [.ref 34, .null, .int x2, .int x3, .int x4, .int x5, .int x6, .int x7, .int x2, .int 1, .int 1, .null], [.int 1], w)) 4 rfl).trans <|
    (runs_if_t (a := 174) (b := 100) (L := [.ref 34, .null, .int x2, .int x3, .int x4, .int x5, .int x6, .int x7, .int x2, .int 1, .int 1, .null]) (st := []) (w := w) rfl h7).trans <|
    (runs_stps (q' := (181, [.ref 34, .null, .int x2, .int x3, .int x4, .int x5, .int x6, .int x7, .int x2, .null, .null, .null], [.int x6, .ref 51, .int x6, .ref 51], w)) 4 rfl).trans <|
    (runs_ck (q' := (182, [.ref 34, .null, .int x2, .int x3, .int x4, .int x5, .int x6, .int x7, .int x2, .null, .null, .null], [.int (w.1 51 x6.toNatClampNeg), .int x6, .ref 51], w)) rfl h8).trans <|
    (runs_stps (q' := (184, [.ref 34, .null, .int x2, .int x3, .int x4, .int x5, .int x6, .int x7, .int x2, .null, .null, .null], [.int ((w.1 51 x6.toNatClampNeg) + 1), .int x6, .ref 51], w)) 2 rfl).trans <|
    (runs_ck (q' := (185, [.ref 34, .null, .int x2, .int x3, .int x4, .int x5, .int x6, .int x7, .int x2, .null, .null, .null], [], updI w 51 x6.toNatClampNeg ((w.1 51 x6.toNatClampNeg) + 1))) rfl h9).trans <|
    (runs_stps (q' := (191, [.ref 34, .null, .int x2, .int x3, .int x4, .int x5, .int x6, .int x7, .int x2, .null, .null, .null], [.int x6, .ref 51], updI w 51 x6.toNatClampNeg ((w.1 51 x6.toNatClampNeg) + 1))) 3 rfl).trans <|
    (runs_ck (q' := (192, [.ref 34, .null, .int x2, .int x3, .int x4, .int x5, .int x6, .int x7, .int x2, .null, .null, .null], [.int ((updI w 51 x6.toNatClampNeg ((w.1 51 x6.toNatClampNeg) + 1)).1 51 x6.toNatClampNeg)], updI w 51 x6.toNatClampNeg ((w.1 51 x6.toNatClampNeg) + 1))) rfl h10).trans <|
    (runs_stps (q' := (194, [.ref 34, .null, .int x2, .int x3, .int x4, .int x5, .int x6, .int x7, .int x2, .null, .null, .null], [.int 7, .int ((updI w 51 x6.toNatClampNeg ((w.1 51 x6.toNatClampNeg) + 1)).1 51 x6.toNatClampNeg)], updI w 51 x6.toNatClampNeg ((w.1 51 x6.toNatClampNeg) + 1))) 1 rfl).trans <|
    (runs_if_f (a := 197) (b := 207) (L := [.ref 34, .null, .int x2, .int x3, .int x4, .int x5, .int x6, .int x7, .int x2, .null, .null, .null]) (st := []) (w := updI w 51 x6.toNatClampNeg ((w.1 51 x6.toNatClampNeg) + 1)) rfl h11).trans <|
    (runs_stps (q' := (214, [.ref 34, .null, .int x2, .int x3, .int x4, .int x5, .int x6, .int x7, .int x2, .null, .null, .null], [.int x6, .ref 50, .ref 34], updI w 51 x6.toNatClampNeg ((w.1 51 x6.toNatClampNeg) + 1))) 4 rfl).trans <|
    (runs_ck (q' := (215, [.ref 34, .null, .int x2, .int x3, .int x4, .int x5, .int x6, .int x7, .int x2, .null, .null, .null], [.int (w.1 50 x6.toNatClampNeg), .ref 34], updI w 51 x6.toNatClampNeg ((w.1 51 x6.toNatClampNeg) + 1))) rfl h12).trans <|
    (runs_stps (q' := (221, [.ref 34, .null, .int x2, .int x3, .int x4, .int x5, .int x6, .int x7, .int x2, .null, .null, .null], [.int x6, .ref 51, .int (w.1 50 x6.toNatClampNeg), .ref 34], updI w 51 x6.toNatClampNeg ((w.1 51 x6.toNatClampNeg) + 1))) 3 rfl).trans <|
    (runs_ck (q' := (222, [.ref 34, .null, .int x2, .int x3, .int x4, .int x5, .int x6, .int x7, .int x2, .null, .null, .null], [.int ((updI w 51 x6.toNatClampNeg ((w.1 51 x6.toNatClampNeg) + 1)).1 51 x6.toNatClampNeg), .int (w.1 50 x6.toNatClampNeg), .ref 34], updI w 51 x6.toNatClampNeg ((w.1 51 x6.toNatClampNeg) + 1))) rfl h13).trans <|
    (runs_stps (q' := (226, [.ref 34, .null, .int x2, .int x3, .int x4, .int x5, .int x6, .int x7, .int x2, .null, .null, .null], [.int (1 <<< (x2 &&& 31)), .int ((updI w 51 x6.toNatClampNeg ((w.1 51 x6.toNatClampNeg) + 1)).1 51 x6.toNatClampNeg), .int (w.1 50 x6.toNatClampNeg), .ref 34], updI w 51 x6.toNatClampNeg ((w.1 51 x6.toNatClampNeg) + 1))) 3 rfl).trans <|
    (runs_callV (rv := some (.int r1)) (w' := w1) rfl rfl rfl rfl h14).trans <|
    (runs_stps (q' := (235, [.ref 34, .null, .int x2, .int x3, .int x4, .int x5, .int x6, .int x7, .null, .null, .null, .int r1], [.int (-9), .int r1], w1)) 3 rfl).trans <|
    (runs_if_f (a := 285) (b := 238) (L := [.ref 34, .null, .int x2, .int x3, .int x4, .int x5, .int x6, .int x7, .null, .null, .null, .int r1]) (st := []) (w := w1) rfl h15).trans <|
    (runs_stps (q' := (249, [.ref 34, .null, .int x2, .int x3, .int x4, .int x5, .int (x6 + 1), .int x7, .null, .null, .null, .int r1], [.int r1, .int (x6 + 1), .ref 50], w1)) 5 rfl).trans <|
    (runs_ck (q' := (250, [.ref 34, .null, .int x2, .int x3, .int x4, .int x5, .int (x6 + 1), .int x7, .null, .null, .null, .int r1], [], updI w1 50 ((x6 + 1).toNatClampNeg) r1)) rfl h16).trans <|
    (runs_stps (q' := (254, [.ref 34, .null, .int x2, .int x3, .int x4, .int x5, .int (x6 + 1), .int x7, .null, .null, .null, .int r1], [.int x4, .int (x6 + 1)], updI w1 50 ((x6 + 1).toNatClampNeg) r1)) 2 rfl).trans <|
    (runs_if_t (a := 285) (b := 257) (L := [.ref 34, .null, .int x2, .int x3, .int x4, .int x5, .int (x6 + 1), .int x7, .null, .null, .null, .int r1]) (st := []) (w := updI w1 50 ((x6 + 1).toNatClampNeg) r1) rfl h17).trans <|
    (runs_stps (q' := (38, [.ref 34, .null, .int x2, .int x3, .int x4, .int x5, .int (x6 + 1), .int x7, .null, .null, .null, .null], [], updI w1 50 ((x6 + 1).toNatClampNeg) r1)) 1 rfl).trans <|
    rfl
theorem p_X9_played_38FFFFFTTFFT_L38 {ex : Ex} {v1 : Value} {x2 : Int32} {x3 : Int32} {x4 : Int32} {x5 : Int32} {x6 : Int32} {x7 : Int32} {v8 : Value} {v9 : Value} {v10 : Value} {v11 : Value} {r1 : Int32} {w1 : Wd} {w : Wd} (h1 : ¬ x6 < 0) (h2 : (x6 - x6 / 2 * 2) = 0) (h3 : x6 = x4) (h4 : (1 : Int32) = 0) (h5 : vp_in x6 4) (h6 : (w.1 51 x6.toNatClampNeg) = 7) (h7 : (1 : Int32) = 0) (h8 : vp_in x6 4) (h9 : vp_in x6 4) (h10 : vp_in x6 4) (h11 : ¬ ((updI w 51 x6.toNatClampNeg ((w.1 51 x6.toNatClampNeg) + 1)).1 51 x6.toNatClampNeg) = 7) (h12 : vp_in x6 5) (h13 : vp_in x6 4) (h14 : ex 171 [.ref 34, .int (w.1 50 x6.toNatClampNeg), .int ((updI w 51 x6.toNatClampNeg ((w.1 51 x6.toNatClampNeg) + 1)).1 51 x6.toNatClampNeg), .int (1 <<< (x2 &&& 31))] (updI w 51 x6.toNatClampNeg ((w.1 51 x6.toNatClampNeg) + 1)) = some (some (.int r1), w1)) (h15 : ¬ r1 = (-9)) (h16 : vp_in (x6 + 1) 5) (h17 : ¬ x4 ≤ (x6 + 1)) (h18 : vp_in (x6 + 1) 4) (h19 : ¬ ((x6 + 1) - (x6 + 1) / 2 * 2) = 0) (h20 : vp_in (x6 + 1) 4) : runs (T_X9_played ex) (38, [.ref 34, v1, .int x2, .int x3, .int x4, .int x5, .int x6, .int x7, v8, v9, v10, v11], [], w) = runs (T_X9_played ex) (38, [.ref 34, .null, .int x2, .int x3, .int x4, .int x5, .int (x6 + 1), .int x7, .null, .null, .null, .null], [], updI (updI (updI w1 50 ((x6 + 1).toNatClampNeg) r1) 51 ((x6 + 1).toNatClampNeg) (-1)) 52 ((x6 + 1).toNatClampNeg) 1) := 
    (runs_stps (q' := (40, [.ref 34, .null, .int x2, .int x3, .int x4, .int x5, .int x6, .int x7, .null, .null, .null, .null], [.int x6], w)) 1 rfl).trans <|
    (runs_if_f (a := 288) (b := 43) (L := [.ref 34, .null, .int x2, .int x3, .int x4, .int x5, .int x6, .int x7, .null, .null, .null, .null]) (st := []) (w := w) rfl h1).trans <|
    (runs_stps (q' := (47, [.ref 34, .null, .int x2, .int x3, .int x4, .int x5, .int x6, .int x7, .null, .null, .null, .null], [.int (x6 - x6 / 2 * 2)], w)) 3 rfl).trans <|
    (runs_if_t (a := 50) (b := 54) (L := [.ref 34, .null, .int x2, .int x3, .int x4, .int x5, .int x6, .int x7, .null, .null, .null, .null]) (st := []) (w := w) rfl h2).trans <|
    (runs_stps (q' := (61, [.ref 34, .null, .int x2, .int x3, .int x4, .int x5, .int x6, .int x7, .int x2, .null, .null, .null], [.int x4, .int x6], w)) 5 rfl).trans <|
    (runs_if_t (a := 64) (b := 68) (L := [.ref 34, .null, .int x2, .int x3, .int x4, .int x5, .int x6, .int x7, .int x2, .null, .null, .null]) (st := []) (w := w) rfl h3).trans <|
    (runs_stps (q' := (73, [.ref 34, .null, .int x2, .int x3, .int x4, .int x5, .int x6, .int x7, .int x2, .int 1, .null, .null], [.int 1], w)) 4 rfl).trans <|
    (runs_if_t (a := 76) (b := 88) (L := [.ref 34, .null, .int x2, .int x3, .int x4, .int x5, .int x6, .int x7, .int x2, .int 1, .null, .null]) (st := []) (w := w) rfl h4).trans <|
    (runs_stps (q' := (82, [.ref 34, .null, .int x2, .int x3, .int x4, .int x5, .int x6, .int x7, .int x2, .int 1, .null, .null], [.int x6, .ref 51], w)) 3 rfl).trans <|
    (runs_ck (q' := (83, [.ref 34, .null, .int x2, .int x3, .int x4, .int x5, .int x6, .int x7, .int x2, .int 1, .null, .null], [.int (w.1 51 x6.toNatClampNeg)], w)) rfl h5).trans <|
    (runs_stps (q' := (85, [.ref 34, .null, .int x2, .int x3, .int x4, .int x5, .int x6, .int x7, .int x2, .int 1, .null, .null], [.int 7, .int (w.1 51 x6.toNatClampNeg)], w)) 1 rfl).trans <|
    (runs_if_t (a := 88) (b := 92) (L := [.ref 34, .null, .int x2, .int x3, .int x4, .int x5, .int x6, .int x7, .int x2, .int 1, .null, .null]) (st := []) (w := w) rfl h6).trans <|
    (runs_stps (q' := (97, [.ref 34, .null, .int x2, .int x3, .int x4, .int x5, .int x6, .int x7, .int x2, .int 1, .int 1, .null], [.int 1], w)) 4 rfl).trans <|
    (runs_if_t (a := 174) (b := 100) (L := [.ref 34, .null, .int x2, .int x3, .int x4, .int x5, .int x6, .int x7, .int x2, .int 1, .int 1, .null]) (st := []) (w := w) rfl h7).trans <|
    (runs_stps (q' := (181, [.ref 34, .null, .int x2, .int x3, .int x4, .int x5, .int x6, .int x7, .int x2, .null, .null, .null], [.int x6, .ref 51, .int x6, .ref 51], w)) 4 rfl).trans <|
    (runs_ck (q' := (182, [.ref 34, .null, .int x2, .int x3, .int x4, .int x5, .int x6, .int x7, .int x2, .null, .null, .null], [.int (w.1 51 x6.toNatClampNeg), .int x6, .ref 51], w)) rfl h8).trans <|
    (runs_stps (q' := (184, [.ref 34, .null, .int x2, .int x3, .int x4, .int x5, .int x6, .int x7, .int x2, .null, .null, .null], [.int ((w.1 51 x6.toNatClampNeg) + 1), .int x6, .ref 51], w)) 2 rfl).trans <|
    (runs_ck (q' := (185, [.ref 34, .null, .int x2, .int x3, .int x4, .int x5, .int x6, .int x7, .int x2, .null, .null, .null], [], updI w 51 x6.toNatClampNeg ((w.1 51 x6.toNatClampNeg) + 1))) rfl h9).trans <|
    (runs_stps (q' := (191, [.ref 34, .null, .int x2, .int x3, .int x4, .int x5, .int x6, .int x7, .int x2, .null, .null, .null], [.int x6, .ref 51], updI w 51 x6.toNatClampNeg ((w.1 51 x6.toNatClampNeg) + 1))) 3 rfl).trans <|
    (runs_ck (q' := (192, [.ref 34, .null, .int x2, .int x3, .int x4, .int x5, .int x6, .int x7, .int x2, .null, .null, .null], [.int ((updI w 51 x6.toNatClampNeg ((w.1 51 x6.toNatClampNeg) + 1)).1 51 x6.toNatClampNeg)], updI w 51 x6.toNatClampNeg ((w.1 51 x6.toNatClampNeg) + 1))) rfl h10).trans <|
    (runs_stps (q' := (194, [.ref 34, .null, .int x2, .int x3, .int x4, .int x5, .int x6, .int x7, .int x2, .null, .null, .null], [.int 7, .int ((updI w 51 x6.toNatClampNeg ((w.1 51 x6.toNatClampNeg) + 1)).1 51 x6.toNatClampNeg)], updI w 51 x6.toNatClampNeg ((w.1 51 x6.toNatClampNeg) + 1))) 1 rfl).trans <|
    (runs_if_f (a := 197) (b := 207) (L := [.ref 34, .null, .int x2, .int x3, .int x4, .int x5, .int x6, .int x7, .int x2, .null, .null, .null]) (st := []) (w := updI w 51 x6.toNatClampNeg ((w.1 51 x6.toNatClampNeg) + 1)) rfl h11).trans <|
    (runs_stps (q' := (214, [.ref 34, .null, .int x2, .int x3, .int x4, .int x5, .int x6, .int x7, .int x2, .null, .null, .null], [.int x6, .ref 50, .ref 34], updI w 51 x6.toNatClampNeg ((w.1 51 x6.toNatClampNeg) + 1))) 4 rfl).trans <|
    (runs_ck (q' := (215, [.ref 34, .null, .int x2, .int x3, .int x4, .int x5, .int x6, .int x7, .int x2, .null, .null, .null], [.int (w.1 50 x6.toNatClampNeg), .ref 34], updI w 51 x6.toNatClampNeg ((w.1 51 x6.toNatClampNeg) + 1))) rfl h12).trans <|
    (runs_stps (q' := (221, [.ref 34, .null, .int x2, .int x3, .int x4, .int x5, .int x6, .int x7, .int x2, .null, .null, .null], [.int x6, .ref 51, .int (w.1 50 x6.toNatClampNeg), .ref 34], updI w 51 x6.toNatClampNeg ((w.1 51 x6.toNatClampNeg) + 1))) 3 rfl).trans <|
    (runs_ck (q' := (222, [.ref 34, .null, .int x2, .int x3, .int x4, .int x5, .int x6, .int x7, .int x2, .null, .null, .null], [.int ((updI w 51 x6.toNatClampNeg ((w.1 51 x6.toNatClampNeg) + 1)).1 51 x6.toNatClampNeg), .int (w.1 50 x6.toNatClampNeg), .ref 34], updI w 51 x6.toNatClampNeg ((w.1 51 x6.toNatClampNeg) + 1))) rfl h13).trans <|
    (runs_stps (q' := (226, [.ref 34, .null, .int x2, .int x3, .int x4, .int x5, .int x6, .int x7, .int x2, .null, .null, .null], [.int (1 <<< (x2 &&& 31)), .int ((updI w 51 x6.toNatClampNeg ((w.1 51 x6.toNatClampNeg) + 1)).1 51 x6.toNatClampNeg), .int (w.1 50 x6.toNatClampNeg), .ref 34], updI w 51 x6.toNatClampNeg ((w.1 51 x6.toNatClampNeg) + 1))) 3 rfl).trans <|
    (runs_callV (rv := some (.int r1)) (w' := w1) rfl rfl rfl rfl h14).trans <|
    (runs_stps (q' := (235, [.ref 34, .null, .int x2, .int x3, .int x4, .int x5, .int x6, .int x7, .null, .null, .null, .int r1], [.int (-9), .int r1], w1)) 3 rfl).trans <|
    (runs_if_f (a := 285) (b := 238) (L := [.ref 34, .null, .int x2, .int x3, .int x4, .int x5, .int x6, .int x7, .null, .null, .null, .int r1]) (st := []) (w := w1) rfl h15).trans <|
    (runs_stps (q' := (249, [.ref 34, .null, .int x2, .int x3, .int x4, .int x5, .int (x6 + 1), .int x7, .null, .null, .null, .int r1], [.int r1, .int (x6 + 1), .ref 50], w1)) 5 rfl).trans <|
    (runs_ck (q' := (250, [.ref 34, .null, .int x2, .int x3, .int x4, .int x5, .int (x6 + 1), .int x7, .null, .null, .null, .int r1], [], updI w1 50 ((x6 + 1).toNatClampNeg) r1)) rfl h16).trans <|
    (runs_stps (q' := (254, [.ref 34, .null, .int x2, .int x3, .int x4, .int x5, .int (x6 + 1), .int x7, .null, .null, .null, .int r1], [.int x4, .int (x6 + 1)], updI w1 50 ((x6 + 1).toNatClampNeg) r1)) 2 rfl).trans <|
    (runs_if_f (a := 285) (b := 257) (L := [.ref 34, .null, .int x2, .int x3, .int x4, .int x5, .int (x6 + 1), .int x7, .null, .null, .null, .int r1]) (st := []) (w := updI w1 50 ((x6 + 1).toNatClampNeg) r1) rfl h17).trans <|
    (runs_stps (q' := (264, [.ref 34, .null, .int x2, .int x3, .int x4, .int x5, .int (x6 + 1), .int x7, .null, .null, .null, .int r1], [.int (-1), .int (x6 + 1), .ref 51], updI w1 50 ((x6 + 1).toNatClampNeg) r1)) 4 rfl).trans <|
    (runs_ck (q' := (265, [.ref 34, .null, .int x2, .int x3, .int x4, .int x5, .int (x6 + 1), .int x7, .null, .null, .null, .int r1], [], updI (updI w1 50 ((x6 + 1).toNatClampNeg) r1) 51 ((x6 + 1).toNatClampNeg) (-1))) rfl h18).trans <|
    (runs_stps (q' := (275, [.ref 34, .null, .int x2, .int x3, .int x4, .int x5, .int (x6 + 1), .int x7, .null, .null, .null, .int r1], [.int ((x6 + 1) - (x6 + 1) / 2 * 2), .int (x6 + 1), .ref 52], updI (updI w1 50 ((x6 + 1).toNatClampNeg) r1) 51 ((x6 + 1).toNatClampNeg) (-1))) 6 rfl).trans <|
    (runs_if_f (a := 278) (b := 283) (L := [.ref 34, .null, .int x2, .int x3, .int x4, .int x5, .int (x6 + 1), .int x7, .null, .null, .null, .int r1]) (st := [.int (x6 + 1), .ref 52]) (w := updI (updI w1 50 ((x6 + 1).toNatClampNeg) r1) 51 ((x6 + 1).toNatClampNeg) (-1)) rfl h19).trans <|
    (runs_stps (q' := (284, [.ref 34, .null, .int x2, .int x3, .int x4, .int x5, .int (x6 + 1), .int x7, .null, .null, .null, .null], [.int 1, .int (x6 + 1), .ref 52], updI (updI w1 50 ((x6 + 1).toNatClampNeg) r1) 51 ((x6 + 1).toNatClampNeg) (-1))) 1 rfl).trans <|
    (runs_ck (q' := (285, [.ref 34, .null, .int x2, .int x3, .int x4, .int x5, .int (x6 + 1), .int x7, .null, .null, .null, .null], [], updI (updI (updI w1 50 ((x6 + 1).toNatClampNeg) r1) 51 ((x6 + 1).toNatClampNeg) (-1)) 52 ((x6 + 1).toNatClampNeg) 1)) rfl h20).trans <|
    (runs_stps (q' := (38, [.ref 34, .null, .int x2, .int x3, .int x4, .int x5, .int (x6 + 1), .int x7, .null, .null, .null, .null], [], updI (updI (updI w1 50 ((x6 + 1).toNatClampNeg) r1) 51 ((x6 + 1).toNatClampNeg) (-1)) 52 ((x6 + 1).toNatClampNeg) 1)) 1 rfl).trans <|
    rfl
theorem p_X9_played_38FFFFFTTFFF_L38 {ex : Ex} {v1 : Value} {x2 : Int32} {x3 : Int32} {x4 : Int32} {x5 : Int32} {x6 : Int32} {x7 : Int32} {v8 : Value} {v9 : Value} {v10 : Value} {v11 : Value} {r1 : Int32} {w1 : Wd} {w : Wd} (h1 : ¬ x6 < 0) (h2 : (x6 - x6 / 2 * 2) = 0) (h3 : x6 = x4) (h4 : (1 : Int32) = 0) (h5 : vp_in x6 4) (h6 : (w.1 51 x6.toNatClampNeg) = 7) (h7 : (1 : Int32) = 0) (h8 : vp_in x6 4) (h9 : vp_in x6 4) (h10 : vp_in x6 4) (h11 : ¬ ((updI w 51 x6.toNatClampNeg ((w.1 51 x6.toNatClampNeg) + 1)).1 51 x6.toNatClampNeg) = 7) (h12 : vp_in x6 5) (h13 : vp_in x6 4) (h14 : ex 171 [.ref 34, .int (w.1 50 x6.toNatClampNeg), .int ((updI w 51 x6.toNatClampNeg ((w.1 51 x6.toNatClampNeg) + 1)).1 51 x6.toNatClampNeg), .int (1 <<< (x2 &&& 31))] (updI w 51 x6.toNatClampNeg ((w.1 51 x6.toNatClampNeg) + 1)) = some (some (.int r1), w1)) (h15 : ¬ r1 = (-9)) (h16 : vp_in (x6 + 1) 5) (h17 : ¬ x4 ≤ (x6 + 1)) (h18 : vp_in (x6 + 1) 4) (h19 : ((x6 + 1) - (x6 + 1) / 2 * 2) = 0) (h20 : vp_in (x6 + 1) 4) : runs (T_X9_played ex) (38, [.ref 34, v1, .int x2, .int x3, .int x4, .int x5, .int x6, .int x7, v8, v9, v10, v11], [], w) = runs (T_X9_played ex) (38, [.ref 34, .null, .int x2, .int x3, .int x4, .int x5, .int (x6 + 1), .int x7, .null, .null, .null, .null], [], updI (updI (updI w1 50 ((x6 + 1).toNatClampNeg) r1) 51 ((x6 + 1).toNatClampNeg) (-1)) 52 ((x6 + 1).toNatClampNeg) (-9)) := 
    (runs_stps (q' := (40, [.ref 34, .null, .int x2, .int x3, .int x4, .int x5, .int x6, .int x7, .null, .null, .null, .null], [.int x6], w)) 1 rfl).trans <|
    (runs_if_f (a := 288) (b := 43) (L := [.ref 34, .null, .int x2, .int x3, .int x4, .int x5, .int x6, .int x7, .null, .null, .null, .null]) (st := []) (w := w) rfl h1).trans <|
    (runs_stps (q' := (47, [.ref 34, .null, .int x2, .int x3, .int x4, .int x5, .int x6, .int x7, .null, .null, .null, .null], [.int (x6 - x6 / 2 * 2)], w)) 3 rfl).trans <|
    (runs_if_t (a := 50) (b := 54) (L := [.ref 34, .null, .int x2, .int x3, .int x4, .int x5, .int x6, .int x7, .null, .null, .null, .null]) (st := []) (w := w) rfl h2).trans <|
    (runs_stps (q' := (61, [.ref 34, .null, .int x2, .int x3, .int x4, .int x5, .int x6, .int x7, .int x2, .null, .null, .null], [.int x4, .int x6], w)) 5 rfl).trans <|
    (runs_if_t (a := 64) (b := 68) (L := [.ref 34, .null, .int x2, .int x3, .int x4, .int x5, .int x6, .int x7, .int x2, .null, .null, .null]) (st := []) (w := w) rfl h3).trans <|
    (runs_stps (q' := (73, [.ref 34, .null, .int x2, .int x3, .int x4, .int x5, .int x6, .int x7, .int x2, .int 1, .null, .null], [.int 1], w)) 4 rfl).trans <|
    (runs_if_t (a := 76) (b := 88) (L := [.ref 34, .null, .int x2, .int x3, .int x4, .int x5, .int x6, .int x7, .int x2, .int 1, .null, .null]) (st := []) (w := w) rfl h4).trans <|
    (runs_stps (q' := (82, [.ref 34, .null, .int x2, .int x3, .int x4, .int x5, .int x6, .int x7, .int x2, .int 1, .null, .null], [.int x6, .ref 51], w)) 3 rfl).trans <|
    (runs_ck (q' := (83, [.ref 34, .null, .int x2, .int x3, .int x4, .int x5, .int x6, .int x7, .int x2, .int 1, .null, .null], [.int (w.1 51 x6.toNatClampNeg)], w)) rfl h5).trans <|
    (runs_stps (q' := (85, [.ref 34, .null, .int x2, .int x3, .int x4, .int x5, .int x6, .int x7, .int x2, .int 1, .null, .null], [.int 7, .int (w.1 51 x6.toNatClampNeg)], w)) 1 rfl).trans <|
    (runs_if_t (a := 88) (b := 92) (L := [.ref 34, .null, .int x2, .int x3, .int x4, .int x5, .int x6, .int x7, .int x2, .int 1, .null, .null]) (st := []) (w := w) rfl h6).trans <|
    (runs_stps (q' := (97, [.ref 34, .null, .int x2, .int x3, .int x4, .int x5, .int x6, .int x7, .int x2, .int 1, .int 1, .null], [.int 1], w)) 4 rfl).trans <|
    (runs_if_t (a := 174) (b := 100) (L := [.ref 34, .null, .int x2, .int x3, .int x4, .int x5, .int x6, .int x7, .int x2, .int 1, .int 1, .null]) (st := []) (w := w) rfl h7).trans <|
    (runs_stps (q' := (181, [.ref 34, .null, .int x2, .int x3, .int x4, .int x5, .int x6, .int x7, .int x2, .null, .null, .null], [.int x6, .ref 51, .int x6, .ref 51], w)) 4 rfl).trans <|
    (runs_ck (q' := (182, [.ref 34, .null, .int x2, .int x3, .int x4, .int x5, .int x6, .int x7, .int x2, .null, .null, .null], [.int (w.1 51 x6.toNatClampNeg), .int x6, .ref 51], w)) rfl h8).trans <|
    (runs_stps (q' := (184, [.ref 34, .null, .int x2, .int x3, .int x4, .int x5, .int x6, .int x7, .int x2, .null, .null, .null], [.int ((w.1 51 x6.toNatClampNeg) + 1), .int x6, .ref 51], w)) 2 rfl).trans <|
    (runs_ck (q' := (185, [.ref 34, .null, .int x2, .int x3, .int x4, .int x5, .int x6, .int x7, .int x2, .null, .null, .null], [], updI w 51 x6.toNatClampNeg ((w.1 51 x6.toNatClampNeg) + 1))) rfl h9).trans <|
    (runs_stps (q' := (191, [.ref 34, .null, .int x2, .int x3, .int x4, .int x5, .int x6, .int x7, .int x2, .null, .null, .null], [.int x6, .ref 51], updI w 51 x6.toNatClampNeg ((w.1 51 x6.toNatClampNeg) + 1))) 3 rfl).trans <|
    (runs_ck (q' := (192, [.ref 34, .null, .int x2, .int x3, .int x4, .int x5, .int x6, .int x7, .int x2, .null, .null, .null], [.int ((updI w 51 x6.toNatClampNeg ((w.1 51 x6.toNatClampNeg) + 1)).1 51 x6.toNatClampNeg)], updI w 51 x6.toNatClampNeg ((w.1 51 x6.toNatClampNeg) + 1))) rfl h10).trans <|
    (runs_stps (q' := (194, [.ref 34, .null, .int x2, .int x3, .int x4, .int x5, .int x6, .int x7, .int x2, .null, .null, .null], [.int 7, .int ((updI w 51 x6.toNatClampNeg ((w.1 51 x6.toNatClampNeg) + 1)).1 51 x6.toNatClampNeg)], updI w 51 x6.toNatClampNeg ((w.1 51 x6.toNatClampNeg) + 1))) 1 rfl).trans <|
    (runs_if_f (a := 197) (b := 207) (L := [.ref 34, .null, .int x2, .int x3, .int x4, .int x5, .int x6, .int x7, .int x2, .null, .null, .null]) (st := []) (w := updI w 51 x6.toNatClampNeg ((w.1 51 x6.toNatClampNeg) + 1)) rfl h11).trans <|
    (runs_stps (q' := (214, [.ref 34, .null, .int x2, .int x3, .int x4, .int x5, .int x6, .int x7, .int x2, .null, .null, .null], [.int x6, .ref 50, .ref 34], updI w 51 x6.toNatClampNeg ((w.1 51 x6.toNatClampNeg) + 1))) 4 rfl).trans <|
    (runs_ck (q' := (215, [.ref 34, .null, .int x2, .int x3, .int x4, .int x5, .int x6, .int x7, .int x2, .null, .null, .null], [.int (w.1 50 x6.toNatClampNeg), .ref 34], updI w 51 x6.toNatClampNeg ((w.1 51 x6.toNatClampNeg) + 1))) rfl h12).trans <|
    (runs_stps (q' := (221, [.ref 34, .null, .int x2, .int x3, .int x4, .int x5, .int x6, .int x7, .int x2, .null, .null, .null], [.int x6, .ref 51, .int (w.1 50 x6.toNatClampNeg), .ref 34], updI w 51 x6.toNatClampNeg ((w.1 51 x6.toNatClampNeg) + 1))) 3 rfl).trans <|
    (runs_ck (q' := (222, [.ref 34, .null, .int x2, .int x3, .int x4, .int x5, .int x6, .int x7, .int x2, .null, .null, .null], [.int ((updI w 51 x6.toNatClampNeg ((w.1 51 x6.toNatClampNeg) + 1)).1 51 x6.toNatClampNeg), .int (w.1 50 x6.toNatClampNeg), .ref 34], updI w 51 x6.toNatClampNeg ((w.1 51 x6.toNatClampNeg) + 1))) rfl h13).trans <|
    (runs_stps (q' := (226, [.ref 34, .null, .int x2, .int x3, .int x4, .int x5, .int x6, .int x7, .int x2, .null, .null, .null], [.int (1 <<< (x2 &&& 31)), .int ((updI w 51 x6.toNatClampNeg ((w.1 51 x6.toNatClampNeg) + 1)).1 51 x6.toNatClampNeg), .int (w.1 50 x6.toNatClampNeg), .ref 34], updI w 51 x6.toNatClampNeg ((w.1 51 x6.toNatClampNeg) + 1))) 3 rfl).trans <|
    (runs_callV (rv := some (.int r1)) (w' := w1) rfl rfl rfl rfl h14).trans <|
    (runs_stps (q' := (235, [.ref 34, .null, .int x2, .int x3, .int x4, .int x5, .int x6, .int x7, .null, .null, .null, .int r1], [.int (-9), .int r1], w1)) 3 rfl).trans <|
    (runs_if_f (a := 285) (b := 238) (L := [.ref 34, .null, .int x2, .int x3, .int x4, .int x5, .int x6, .int x7, .null, .null, .null, .int r1]) (st := []) (w := w1) rfl h15).trans <|
    (runs_stps (q' := (249, [.ref 34, .null, .int x2, .int x3, .int x4, .int x5, .int (x6 + 1), .int x7, .null, .null, .null, .int r1], [.int r1, .int (x6 + 1), .ref 50], w1)) 5 rfl).trans <|
    (runs_ck (q' := (250, [.ref 34, .null, .int x2, .int x3, .int x4, .int x5, .int (x6 + 1), .int x7, .null, .null, .null, .int r1], [], updI w1 50 ((x6 + 1).toNatClampNeg) r1)) rfl h16).trans <|
    (runs_stps (q' := (254, [.ref 34, .null, .int x2, .int x3, .int x4, .int x5, .int (x6 + 1), .int x7, .null, .null, .null, .int r1], [.int x4, .int (x6 + 1)], updI w1 50 ((x6 + 1).toNatClampNeg) r1)) 2 rfl).trans <|
    (runs_if_f (a := 285) (b := 257) (L := [.ref 34, .null, .int x2, .int x3, .int x4, .int x5, .int (x6 + 1), .int x7, .null, .null, .null, .int r1]) (st := []) (w := updI w1 50 ((x6 + 1).toNatClampNeg) r1) rfl h17).trans <|
    (runs_stps (q' := (264, [.ref 34, .null, .int x2, .int x3, .int x4, .int x5, .int (x6 + 1), .int x7, .null, .null, .null, .int r1], [.int (-1), .int (x6 + 1), .ref 51], updI w1 50 ((x6 + 1).toNatClampNeg) r1)) 4 rfl).trans <|
    (runs_ck (q' := (265, [.ref 34, .null, .int x2, .int x3, .int x4, .int x5, .int (x6 + 1), .int x7, .null, .null, .null, .int r1], [], updI (updI w1 50 ((x6 + 1).toNatClampNeg) r1) 51 ((x6 + 1).toNatClampNeg) (-1))) rfl h18).trans <|
    (runs_stps (q' := (275, [.ref 34, .null, .int x2, .int x3, .int x4, .int x5, .int (x6 + 1), .int x7, .null, .null, .null, .int r1], [.int ((x6 + 1) - (x6 + 1) / 2 * 2), .int (x6 + 1), .ref 52], updI (updI w1 50 ((x6 + 1).toNatClampNeg) r1) 51 ((x6 + 1).toNatClampNeg) (-1))) 6 rfl).trans <|
    (runs_if_t (a := 278) (b := 283) (L := [.ref 34, .null, .int x2, .int x3, .int x4, .int x5, .int (x6 + 1), .int x7, .null, .null, .null, .int r1]) (st := [.int (x6 + 1), .ref 52]) (w := updI (updI w1 50 ((x6 + 1).toNatClampNeg) r1) 51 ((x6 + 1).toNatClampNeg) (-1)) rfl h19).trans <|
    (runs_stps (q' := (284, [.ref 34, .null, .int x2, .int x3, .int x4, .int x5, .int (x6 + 1), .int x7, .null, .null, .null, .int r1], [.int (-9), .int (x6 + 1), .ref 52], updI (updI w1 50 ((x6 + 1).toNatClampNeg) r1) 51 ((x6 + 1).toNatClampNeg) (-1))) 2 rfl).trans <|
    (runs_ck (q' := (285, [.ref 34, .null, .int x2, .int x3, .int x4, .int x5, .int (x6 + 1), .int x7, .null, .null, .null, .null], [], updI (updI (updI w1 50 ((x6 + 1).toNatClampNeg) r1) 51 ((x6 + 1).toNatClampNeg) (-1)) 52 ((x6 + 1).toNatClampNeg) (-9))) rfl h20).trans <|
    (runs_stps (q' := (38, [.ref 34, .null, .int x2, .int x3, .int x4, .int x5, .int (x6 + 1), .int x7, .null, .null, .null, .null], [], updI (updI (updI w1 50 ((x6 + 1).toNatClampNeg) r1) 51 ((x6 + 1).toNatClampNeg) (-1)) 52 ((x6 + 1).toNatClampNeg) (-9))) 1 rfl).trans <|
    rfl
theorem p_X9_played_38FFFFFTFT_L38 {ex : Ex} {v1 : Value} {x2 : Int32} {x3 : Int32} {x4 : Int32} {x5 : Int32} {x6 : Int32} {x7 : Int32} {v8 : Value} {v9 : Value} {v10 : Value} {v11 : Value} {w : Wd} (h1 : ¬ x6 < 0) (h2 : (x6 - x6 / 2 * 2) = 0) (h3 : x6 = x4) (h4 : (1 : Int32) = 0) (h5 : vp_in x6 4) (h6 : (w.1 51 x6.toNatClampNeg) = 7) (h7 : (1 : Int32) = 0) (h8 : vp_in x6 4) (h9 : vp_in x6 4) (h10 : vp_in x6 4) (h11 : ((updI w 51 x6.toNatClampNeg ((w.1 51 x6.toNatClampNeg) + 1)).1 51 x6.toNatClampNeg) = 7) (h12 : vp_in x6 5) (h13 : (w.1 50 x6.toNatClampNeg) = (-9)) : runs (T_X9_played ex) (38, [.ref 34, v1, .int x2, .int x3, .int x4, .int x5, .int x6, .int x7, v8, v9, v10, v11], [], w) = runs (T_X9_played ex) (38, [.ref 34, .null, .int x2, .int x3, .int x4, .int x5, .int x6, .int x7, .null, .null, .null, .null], [], updI w 51 x6.toNatClampNeg ((w.1 51 x6.toNatClampNeg) + 1)) := 
    (runs_stps (q' := (40, [.ref 34, .null, .int x2, .int x3, .int x4, .int x5, .int x6, .int x7, .null, .null, .null, .null], [.int x6], w)) 1 rfl).trans <|
    (runs_if_f (a := 288) (b := 43) (L := [.ref 34, .null, .int x2, .int x3, .int x4, .int x5, .int x6, .int x7, .null, .null, .null, .null]) (st := []) (w := w) rfl h1).trans <|
    (runs_stps (q' := (47, [.ref 34, .null, .int x2, .int x3, .int x4, .int x5, .int x6, .int x7, .null, .null, .null, .null], [.int (x6 - x6 / 2 * 2)], w)) 3 rfl).trans <|
    (runs_if_t (a := 50) (b := 54) (L := [.ref 34, .null, .int x2, .int x3, .int x4, .int x5, .int x6, .int x7, .null, .null, .null, .null]) (st := []) (w := w) rfl h2).trans <|
    (runs_stps (q' := (61, [.ref 34, .null, .int x2, .int x3, .int x4, .int x5, .int x6, .int x7, .int x2, .null, .null, .null], [.int x4, .int x6], w)) 5 rfl).trans <|
    (runs_if_t (a := 64) (b := 68) (L := [.ref 34, .null, .int x2, .int x3, .int x4, .int x5, .int x6, .int x7, .int x2, .null, .null, .null]) (st := []) (w := w) rfl h3).trans <|
    (runs_stps (q' := (73, [.ref 34, .null, .int x2, .int x3, .int x4, .int x5, .int x6, .int x7, .int x2, .int 1, .null, .null], [.int 1], w)) 4 rfl).trans <|
    (runs_if_t (a := 76) (b := 88) (L := [.ref 34, .null, .int x2, .int x3, .int x4, .int x5, .int x6, .int x7, .int x2, .int 1, .null, .null]) (st := []) (w := w) rfl h4).trans <|
    (runs_stps (q' := (82, [.ref 34, .null, .int x2, .int x3, .int x4, .int x5, .int x6, .int x7, .int x2, .int 1, .null, .null], [.int x6, .ref 51], w)) 3 rfl).trans <|
    (runs_ck (q' := (83, [.ref 34, .null, .int x2, .int x3, .int x4, .int x5, .int x6, .int x7, .int x2, .int 1, .null, .null], [.int (w.1 51 x6.toNatClampNeg)], w)) rfl h5).trans <|
    (runs_stps (q' := (85, [.ref 34, .null, .int x2, .int x3, .int x4, .int x5, .int x6, .int x7, .int x2, .int 1, .null, .null], [.int 7, .int (w.1 51 x6.toNatClampNeg)], w)) 1 rfl).trans <|
    (runs_if_t (a := 88) (b := 92) (L := [.ref 34, .null, .int x2, .int x3, .int x4, .int x5, .int x6, .int x7, .int x2, .int 1, .null, .null]) (st := []) (w := w) rfl h6).trans <|
    (runs_stps (q' := (97, [.ref 34, .null, .int x2, .int x3, .int x4, .int x5, .int x6, .int x7, .int x2, .int 1, .int 1, .null], [.int 1], w)) 4 rfl).trans <|
    (runs_if_t (a := 174) (b := 100) (L := [.ref 34, .null, .int x2, .int x3, .int x4, .int x5, .int x6, .int x7, .int x2, .int 1, .int 1, .null]) (st := []) (w := w) rfl h7).trans <|
    (runs_stps (q' := (181, [.ref 34, .null, .int x2, .int x3, .int x4, .int x5, .int x6, .int x7, .int x2, .null, .null, .null], [.int x6, .ref 51, .int x6, .ref 51], w)) 4 rfl).trans <|
    (runs_ck (q' := (182, [.ref 34, .null, .int x2, .int x3, .int x4, .int x5, .int x6, .int x7, .int x2, .null, .null, .null], [.int (w.1 51 x6.toNatClampNeg), .int x6, .ref 51], w)) rfl h8).trans <|
    (runs_stps (q' := (184, [.ref 34, .null, .int x2, .int x3, .int x4, .int x5, .int x6, .int x7, .int x2, .null, .null, .null], [.int ((w.1 51 x6.toNatClampNeg) + 1), .int x6, .ref 51], w)) 2 rfl).trans <|
    (runs_ck (q' := (185, [.ref 34, .null, .int x2, .int x3, .int x4, .int x5, .int x6, .int x7, .int x2, .null, .null, .null], [], updI w 51 x6.toNatClampNeg ((w.1 51 x6.toNatClampNeg) + 1))) rfl h9).trans <|
    (runs_stps (q' := (191, [.ref 34, .null, .int x2, .int x3, .int x4, .int x5, .int x6, .int x7, .int x2, .null, .null, .null], [.int x6, .ref 51], updI w 51 x6.toNatClampNeg ((w.1 51 x6.toNatClampNeg) + 1))) 3 rfl).trans <|
    (runs_ck (q' := (192, [.ref 34, .null, .int x2, .int x3, .int x4, .int x5, .int x6, .int x7, .int x2, .null, .null, .null], [.int ((updI w 51 x6.toNatClampNeg ((w.1 51 x6.toNatClampNeg) + 1)).1 51 x6.toNatClampNeg)], updI w 51 x6.toNatClampNeg ((w.1 51 x6.toNatClampNeg) + 1))) rfl h10).trans <|
    (runs_stps (q' := (194, [.ref 34, .null, .int x2, .int x3, .int x4, .int x5, .int x6, .int x7, .int x2, .null, .null, .null], [.int 7, .int ((updI w 51 x6.toNatClampNeg ((w.1 51 x6.toNatClampNeg) + 1)).1 51 x6.toNatClampNeg)], updI w 51 x6.toNatClampNeg ((w.1 51 x6.toNatClampNeg) + 1))) 1 rfl).trans <|
    (runs_if_t (a := 197) (b := 207) (L := [.ref 34, .null, .int x2, .int x3, .int x4, .int x5, .int x6, .int x7, .int x2, .null, .null, .null]) (st := []) (w := updI w 51 x6.toNatClampNeg ((w.1 51 x6.toNatClampNeg) + 1)) rfl h11).trans <|
    (runs_stps (q' := (203, [.ref 34, .null, .int x2, .int x3, .int x4, .int x5, .int x6, .int x7, .int x2, .null, .null, .null], [.int x6, .ref 50], updI w 51 x6.toNatClampNeg ((w.1 51 x6.toNatClampNeg) + 1))) 3 rfl).trans <|
    (runs_ck (q' := (204, [.ref 34, .null, .int x2, .int x3, .int x4, .int x5, .int x6, .int x7, .int x2, .null, .null, .null], [.int (w.1 50 x6.toNatClampNeg)], updI w 51 x6.toNatClampNeg ((w.1 51 x6.toNatClampNeg) + 1))) rfl h12).trans <|
    (runs_stps (q' := (235, [.ref 34, .null, .int x2, .int x3, .int x4, .int x5, .int x6, .int x7, .null, .null, .null, .int (w.1 50 x6.toNatClampNeg)], [.int (-9), .int (w.1 50 x6.toNatClampNeg)], updI w 51 x6.toNatClampNeg ((w.1 51 x6.toNatClampNeg) + 1))) 4 rfl).trans <|
    (runs_if_t (a := 285) (b := 238) (L := [.ref 34, .null, .int x2, .int x3, .int x4, .int x5, .int x6, .int x7, .null, .null, .null, .int (w.1 50 x6.toNatClampNeg)]) (st := []) (w := updI w 51 x6.toNatClampNeg ((w.1 51 x6.toNatClampNeg) + 1)) rfl h13).trans <|
    (runs_stps (q' := (38, [.ref 34, .null, .int x2, .int x3, .int x4, .int x5, .int x6, .int x7, .null, .null, .null, .null], [], updI w 51 x6.toNatClampNeg ((w.1 51 x6.toNatClampNeg) + 1))) 1 rfl).trans <|
    rfl
theorem p_X9_played_38FFFFFTFFT_L38 {ex : Ex} {v1 : Value} {x2 : Int32} {x3 : Int32} {x4 : Int32} {x5 : Int32} {x6 : Int32} {x7 : Int32} {v8 : Value} {v9 : Value} {v10 : Value} {v11 : Value} {w : Wd} (h1 : ¬ x6 < 0) (h2 : (x6 - x6 / 2 * 2) = 0) (h3 : x6 = x4) (h4 : (1 : Int32) = 0) (h5 : vp_in x6 4) (h6 : (w.1 51 x6.toNatClampNeg) = 7) (h7 : (1 : Int32) = 0) (h8 : vp_in x6 4) (h9 : vp_in x6 4) (h10 : vp_in x6 4) (h11 : ((updI w 51 x6.toNatClampNeg ((w.1 51 x6.toNatClampNeg) + 1)).1 51 x6.toNatClampNeg) = 7) (h12 : vp_in x6 5) (h13 : ¬ (w.1 50 x6.toNatClampNeg) = (-9)) (h14 : vp_in (x6 + 1) 5) (h15 : x4 ≤ (x6 + 1)) : runs (T_X9_played ex) (38, [.ref 34, v1, .int x2, .int x3, .int x4, .int x5, .int x6, .int x7, v8, v9, v10, v11], [], w) = runs (T_X9_played ex) (38, [.ref 34, .null, .int x2, .int x3, .int x4, .int x5, .int (x6 + 1), .int x7, .null, .null, .null, .null], [], updI (updI w 51 x6.toNatClampNeg ((w.1 51 x6.toNatClampNeg) + 1)) 50 ((x6 + 1).toNatClampNeg) (w.1 50 x6.toNatClampNeg)) := 
    (runs_stps (q' := (40, [.ref 34, .null, .int x2, .int x3, .int x4, .int x5, .int x6, .int x7, .null, .null, .null, .null], [.int x6], w)) 1 rfl).trans <|
    (runs_if_f (a := 288) (b := 43) (L := [.ref 34, .null, .int x2, .int x3, .int x4, .int x5, .int x6, .int x7, .null, .null, .null, .null]) (st := []) (w := w) rfl h1).trans <|
    (runs_stps (q' := (47, [.ref 34, .null, .int x2, .int x3, .int x4, .int x5, .int x6, .int x7, .null, .null, .null, .null], [.int (x6 - x6 / 2 * 2)], w)) 3 rfl).trans <|
    (runs_if_t (a := 50) (b := 54) (L := [.ref 34, .null, .int x2, .int x3, .int x4, .int x5, .int x6, .int x7, .null, .null, .null, .null]) (st := []) (w := w) rfl h2).trans <|
    (runs_stps (q' := (61, [.ref 34, .null, .int x2, .int x3, .int x4, .int x5, .int x6, .int x7, .int x2, .null, .null, .null], [.int x4, .int x6], w)) 5 rfl).trans <|
    (runs_if_t (a := 64) (b := 68) (L := [.ref 34, .null, .int x2, .int x3, .int x4, .int x5, .int x6, .int x7, .int x2, .null, .null, .null]) (st := []) (w := w) rfl h3).trans <|
    (runs_stps (q' := (73, [.ref 34, .null, .int x2, .int x3, .int x4, .int x5, .int x6, .int x7, .int x2, .int 1, .null, .null], [.int 1], w)) 4 rfl).trans <|
    (runs_if_t (a := 76) (b := 88) (L := [.ref 34, .null, .int x2, .int x3, .int x4, .int x5, .int x6, .int x7, .int x2, .int 1, .null, .null]) (st := []) (w := w) rfl h4).trans <|
    (runs_stps (q' := (82, [.ref 34, .null, .int x2, .int x3, .int x4, .int x5, .int x6, .int x7, .int x2, .int 1, .null, .null], [.int x6, .ref 51], w)) 3 rfl).trans <|
    (runs_ck (q' := (83, [.ref 34, .null, .int x2, .int x3, .int x4, .int x5, .int x6, .int x7, .int x2, .int 1, .null, .null], [.int (w.1 51 x6.toNatClampNeg)], w)) rfl h5).trans <|
    (runs_stps (q' := (85, [.ref 34, .null, .int x2, .int x3, .int x4, .int x5, .int x6, .int x7, .int x2, .int 1, .null, .null], [.int 7, .int (w.1 51 x6.toNatClampNeg)], w)) 1 rfl).trans <|
    (runs_if_t (a := 88) (b := 92) (L := [.ref 34, .null, .int x2, .int x3, .int x4, .int x5, .int x6, .int x7, .int x2, .int 1, .null, .null]) (st := []) (w := w) rfl h6).trans <|
    (runs_stps (q' := (97, [.ref 34, .null, .int x2, .int x3, .int x4, .int x5, .int x6, .int x7, .int x2, .int 1, .int 1, .null], [.int 1], w)) 4 rfl).trans <|
    (runs_if_t (a := 174) (b := 100) (L := [.ref 34, .null, .int x2, .int x3, .int x4, .int x5, .int x6, .int x7, .int x2, .int 1, .int 1, .null]) (st := []) (w := w) rfl h7).trans <|
    (runs_stps (q' := (181, [.ref 34, .null, .int x2, .int x3, .int x4, .int x5, .int x6, .int x7, .int x2, .null, .null, .null], [.int x6, .ref 51, .int x6, .ref 51], w)) 4 rfl).trans <|
    (runs_ck (q' := (182, [.ref 34, .null, .int x2, .int x3, .int x4, .int x5, .int x6, .int x7, .int x2, .null, .null, .null], [.int (w.1 51 x6.toNatClampNeg), .int x6, .ref 51], w)) rfl h8).trans <|
    (runs_stps (q' := (184, [.ref 34, .null, .int x2, .int x3, .int x4, .int x5, .int x6, .int x7, .int x2, .null, .null, .null], [.int ((w.1 51 x6.toNatClampNeg) + 1), .int x6, .ref 51], w)) 2 rfl).trans <|
    (runs_ck (q' := (185, [.ref 34, .null, .int x2, .int x3, .int x4, .int x5, .int x6, .int x7, .int x2, .null, .null, .null], [], updI w 51 x6.toNatClampNeg ((w.1 51 x6.toNatClampNeg) + 1))) rfl h9).trans <|
    (runs_stps (q' := (191, [.ref 34, .null, .int x2, .int x3, .int x4, .int x5, .int x6, .int x7, .int x2, .null, .null, .null], [.int x6, .ref 51], updI w 51 x6.toNatClampNeg ((w.1 51 x6.toNatClampNeg) + 1))) 3 rfl).trans <|
    (runs_ck (q' := (192, [.ref 34, .null, .int x2, .int x3, .int x4, .int x5, .int x6, .int x7, .int x2, .null, .null, .null], [.int ((updI w 51 x6.toNatClampNeg ((w.1 51 x6.toNatClampNeg) + 1)).1 51 x6.toNatClampNeg)], updI w 51 x6.toNatClampNeg ((w.1 51 x6.toNatClampNeg) + 1))) rfl h10).trans <|
    (runs_stps (q' := (194, [.ref 34, .null, .int x2, .int x3, .int x4, .int x5, .int x6, .int x7, .int x2, .null, .null, .null], [.int 7, .int ((updI w 51 x6.toNatClampNeg ((w.1 51 x6.toNatClampNeg) + 1)).1 51 x6.toNatClampNeg)], updI w 51 x6.toNatClampNeg ((w.1 51 x6.toNatClampNeg) + 1))) 1 rfl).trans <|
    (runs_if_t (a := 197) (b := 207) (L := [.ref 34, .null, .int x2, .int x3, .int x4, .int x5, .int x6, .int x7, .int x2, .null, .null, .null]) (st := []) (w := updI w 51 x6.toNatClampNeg ((w.1 51 x6.toNatClampNeg) + 1)) rfl h11).trans <|
    (runs_stps (q' := (203, [.ref 34, .null, .int x2, .int x3, .int x4, .int x5, .int x6, .int x7, .int x2, .null, .null, .null], [.int x6, .ref 50], updI w 51 x6.toNatClampNeg ((w.1 51 x6.toNatClampNeg) + 1))) 3 rfl).trans <|
    (runs_ck (q' := (204, [.ref 34, .null, .int x2, .int x3, .int x4, .int x5, .int x6, .int x7, .int x2, .null, .null, .null], [.int (w.1 50 x6.toNatClampNeg)], updI w 51 x6.toNatClampNeg ((w.1 51 x6.toNatClampNeg) + 1))) rfl h12).trans <|
    (runs_stps (q' := (235, [.ref 34, .null, .int x2, .int x3, .int x4, .int x5, .int x6, .int x7, .null, .null, .null, .int (w.1 50 x6.toNatClampNeg)], [.int (-9), .int (w.1 50 x6.toNatClampNeg)], updI w 51 x6.toNatClampNeg ((w.1 51 x6.toNatClampNeg) + 1))) 4 rfl).trans <|
    (runs_if_f (a := 285) (b := 238) (L := [.ref 34, .null, .int x2, .int x3, .int x4, .int x5, .int x6, .int x7, .null, .null, .null, .int (w.1 50 x6.toNatClampNeg)]) (st := []) (w := updI w 51 x6.toNatClampNeg ((w.1 51 x6.toNatClampNeg) + 1)) rfl h13).trans <|
    (runs_stps (q' := (249, [.ref 34, .null, .int x2, .int x3, .int x4, .int x5, .int (x6 + 1), .int x7, .null, .null, .null, .int (w.1 50 x6.toNatClampNeg)], [.int (w.1 50 x6.toNatClampNeg), .int (x6 + 1), .ref 50], updI w 51 x6.toNatClampNeg ((w.1 51 x6.toNatClampNeg) + 1))) 5 rfl).trans <|
    (runs_ck (q' := (250, [.ref 34, .null, .int x2, .int x3, .int x4, .int x5, .int (x6 + 1), .int x7, .null, .null, .null, .int (w.1 50 x6.toNatClampNeg)], [], updI (updI w 51 x6.toNatClampNeg ((w.1 51 x6.toNatClampNeg) + 1)) 50 ((x6 + 1).toNatClampNeg) (w.1 50 x6.toNatClampNeg))) rfl h14).trans <|
    (runs_stps (q' := (254, [.ref 34, .null, .int x2, .int x3, .int x4, .int x5, .int (x6 + 1), .int x7, .null, .null, .null, .int (w.1 50 x6.toNatClampNeg)], [.int x4, .int (x6 + 1)], updI (updI w 51 x6.toNatClampNeg ((w.1 51 x6.toNatClampNeg) + 1)) 50 ((x6 + 1).toNatClampNeg) (w.1 50 x6.toNatClampNeg))) 2 rfl).trans <|
    (runs_if_t (a := 285) (b := 257) (L := [.ref 34, .null, .int x2, .int x3, .int x4, .int x5, .int (x6 + 1), .int x7, .null, .null, .null, .int (w.1 50 x6.toNatClampNeg)]) (st := []) (w := updI (updI w 51 x6.toNatClampNeg ((w.1 51 x6.toNatClampNeg) + 1)) 50 ((x6 + 1).toNatClampNeg) (w.1 50 x6.toNatClampNeg)) rfl h15).trans <|
    (runs_stps (q' := (38, [.ref 34, .null, .int x2, .int x3, .int x4, .int x5, .int (x6 + 1), .int x7, .null, .null, .null, .null], [], updI (updI w 51 x6.toNatClampNeg ((w.1 51 x6.toNatClampNeg) + 1)) 50 ((x6 + 1).toNatClampNeg) (w.1 50 x6.toNatClampNeg))) 1 rfl).trans <|
    rfl
theorem p_X9_played_38FFFFFTFFFT_L38 {ex : Ex} {v1 : Value} {x2 : Int32} {x3 : Int32} {x4 : Int32} {x5 : Int32} {x6 : Int32} {x7 : Int32} {v8 : Value} {v9 : Value} {v10 : Value} {v11 : Value} {w : Wd} (h1 : ¬ x6 < 0) (h2 : (x6 - x6 / 2 * 2) = 0) (h3 : x6 = x4) (h4 : (1 : Int32) = 0) (h5 : vp_in x6 4) (h6 : (w.1 51 x6.toNatClampNeg) = 7) (h7 : (1 : Int32) = 0) (h8 : vp_in x6 4) (h9 : vp_in x6 4) (h10 : vp_in x6 4) (h11 : ((updI w 51 x6.toNatClampNeg ((w.1 51 x6.toNatClampNeg) + 1)).1 51 x6.toNatClampNeg) = 7) (h12 : vp_in x6 5) (h13 : ¬ (w.1 50 x6.toNatClampNeg) = (-9)) (h14 : vp_in (x6 + 1) 5) (h15 : ¬ x4 ≤ (x6 + 1)) (h16 : vp_in (x6 + 1) 4) (h17 : ¬ ((x6 + 1) - (x6 + 1) / 2 * 2) = 0) (h18 : vp_in (x6 + 1) 4) : runs (T_X9_played ex) (38, [.ref 34, v1, .int x2, .int x3, .int x4, .int x5, .int x6, .int x7, v8, v9, v10, v11], [], w) = runs (T_X9_played ex) (38, [.ref 34, .null, .int x2, .int x3, .int x4, .int x5, .int (x6 + 1), .int x7, .null, .null, .null, .null], [], updI (updI (updI (updI w 51 x6.toNatClampNeg ((w.1 51 x6.toNatClampNeg) + 1)) 50 ((x6 + 1).toNatClampNeg) (w.1 50 x6.toNatClampNeg)) 51 ((x6 + 1).toNatClampNeg) (-1)) 52 ((x6 + 1).toNatClampNeg) 1) := 
    (runs_stps (q' := (40, [.ref 34, .null, .int x2, .int x3, .int x4, .int x5, .int x6, .int x7, .null, .null, .null, .null], [.int x6], w)) 1 rfl).trans <|
    (runs_if_f (a := 288) (b := 43) (L := [.ref 34, .null, .int x2, .int x3, .int x4, .int x5, .int x6, .int x7, .null, .null, .null, .null]) (st := []) (w := w) rfl h1).trans <|
    (runs_stps (q' := (47, [.ref 34, .null, .int x2, .int x3, .int x4, .int x5, .int x6, .int x7, .null, .null, .null, .null], [.int (x6 - x6 / 2 * 2)], w)) 3 rfl).trans <|
    (runs_if_t (a := 50) (b := 54) (L := [.ref 34, .null, .int x2, .int x3, .int x4, .int x5, .int x6, .int x7, .null, .null, .null, .null]) (st := []) (w := w) rfl h2).trans <|
    (runs_stps (q' := (61, [.ref 34, .null, .int x2, .int x3, .int x4, .int x5, .int x6, .int x7, .int x2, .null, .null, .null], [.int x4, .int x6], w)) 5 rfl).trans <|
    (runs_if_t (a := 64) (b := 68) (L := [.ref 34, .null, .int x2, .int x3, .int x4, .int x5, .int x6, .int x7, .int x2, .null, .null, .null]) (st := []) (w := w) rfl h3).trans <|
    (runs_stps (q' := (73, [.ref 34, .null, .int x2, .int x3, .int x4, .int x5, .int x6, .int x7, .int x2, .int 1, .null, .null], [.int 1], w)) 4 rfl).trans <|
    (runs_if_t (a := 76) (b := 88) (L := [.ref 34, .null, .int x2, .int x3, .int x4, .int x5, .int x6, .int x7, .int x2, .int 1, .null, .null]) (st := []) (w := w) rfl h4).trans <|
    (runs_stps (q' := (82, [.ref 34, .null, .int x2, .int x3, .int x4, .int x5, .int x6, .int x7, .int x2, .int 1, .null, .null], [.int x6, .ref 51], w)) 3 rfl).trans <|
    (runs_ck (q' := (83, [.ref 34, .null, .int x2, .int x3, .int x4, .int x5, .int x6, .int x7, .int x2, .int 1, .null, .null], [.int (w.1 51 x6.toNatClampNeg)], w)) rfl h5).trans <|
    (runs_stps (q' := (85, [.ref 34, .null, .int x2, .int x3, .int x4, .int x5, .int x6, .int x7, .int x2, .int 1, .null, .null], [.int 7, .int (w.1 51 x6.toNatClampNeg)], w)) 1 rfl).trans <|
    (runs_if_t (a := 88) (b := 92) (L := [.ref 34, .null, .int x2, .int x3, .int x4, .int x5, .int x6, .int x7, .int x2, .int 1, .null, .null]) (st := []) (w := w) rfl h6).trans <|
    (runs_stps (q' := (97, [.ref 34, .null, .int x2, .int x3, .int x4, .int x5, .int x6, .int x7, .int x2, .int 1, .int 1, .null], [.int 1], w)) 4 rfl).trans <|
    (runs_if_t (a := 174) (b := 100) (L := [.ref 34, .null, .int x2, .int x3, .int x4, .int x5, .int x6, .int x7, .int x2, .int 1, .int 1, .null]) (st := []) (w := w) rfl h7).trans <|
    (runs_stps (q' := (181, [.ref 34, .null, .int x2, .int x3, .int x4, .int x5, .int x6, .int x7, .int x2, .null, .null, .null], [.int x6, .ref 51, .int x6, .ref 51], w)) 4 rfl).trans <|
    (runs_ck (q' := (182, [.ref 34, .null, .int x2, .int x3, .int x4, .int x5, .int x6, .int x7, .int x2, .null, .null, .null], [.int (w.1 51 x6.toNatClampNeg), .int x6, .ref 51], w)) rfl h8).trans <|
    (runs_stps (q' := (184, [.ref 34, .null, .int x2, .int x3, .int x4, .int x5, .int x6, .int x7, .int x2, .null, .null, .null], [.int ((w.1 51 x6.toNatClampNeg) + 1), .int x6, .ref 51], w)) 2 rfl).trans <|
    (runs_ck (q' := (185, [.ref 34, .null, .int x2, .int x3, .int x4, .int x5, .int x6, .int x7, .int x2, .null, .null, .null], [], updI w 51 x6.toNatClampNeg ((w.1 51 x6.toNatClampNeg) + 1))) rfl h9).trans <|
    (runs_stps (q' := (191, [.ref 34, .null, .int x2, .int x3, .int x4, .int x5, .int x6, .int x7, .int x2, .null, .null, .null], [.int x6, .ref 51], updI w 51 x6.toNatClampNeg ((w.1 51 x6.toNatClampNeg) + 1))) 3 rfl).trans <|
    (runs_ck (q' := (192, [.ref 34, .null, .int x2, .int x3, .int x4, .int x5, .int x6, .int x7, .int x2, .null, .null, .null], [.int ((updI w 51 x6.toNatClampNeg ((w.1 51 x6.toNatClampNeg) + 1)).1 51 x6.toNatClampNeg)], updI w 51 x6.toNatClampNeg ((w.1 51 x6.toNatClampNeg) + 1))) rfl h10).trans <|
    (runs_stps (q' := (194, [.ref 34, .null, .int x2, .int x3, .int x4, .int x5, .int x6, .int x7, .int x2, .null, .null, .null], [.int 7, .int ((updI w 51 x6.toNatClampNeg ((w.1 51 x6.toNatClampNeg) + 1)).1 51 x6.toNatClampNeg)], updI w 51 x6.toNatClampNeg ((w.1 51 x6.toNatClampNeg) + 1))) 1 rfl).trans <|
    (runs_if_t (a := 197) (b := 207) (L := [.ref 34, .null, .int x2, .int x3, .int x4, .int x5, .int x6, .int x7, .int x2, .null, .null, .null]) (st := []) (w := updI w 51 x6.toNatClampNeg ((w.1 51 x6.toNatClampNeg) + 1)) rfl h11).trans <|
    (runs_stps (q' := (203, [.ref 34, .null, .int x2, .int x3, .int x4, .int x5, .int x6, .int x7, .int x2, .null, .null, .null], [.int x6, .ref 50], updI w 51 x6.toNatClampNeg ((w.1 51 x6.toNatClampNeg) + 1))) 3 rfl).trans <|
    (runs_ck (q' := (204, [.ref 34, .null, .int x2, .int x3, .int x4, .int x5, .int x6, .int x7, .int x2, .null, .null, .null], [.int (w.1 50 x6.toNatClampNeg)], updI w 51 x6.toNatClampNeg ((w.1 51 x6.toNatClampNeg) + 1))) rfl h12).trans <|
    (runs_stps (q' := (235, [.ref 34, .null, .int x2, .int x3, .int x4, .int x5, .int x6, .int x7, .null, .null, .null, .int (w.1 50 x6.toNatClampNeg)], [.int (-9), .int (w.1 50 x6.toNatClampNeg)], updI w 51 x6.toNatClampNeg ((w.1 51 x6.toNatClampNeg) + 1))) 4 rfl).trans <|
    (runs_if_f (a := 285) (b := 238) (L := [.ref 34, .null, .int x2, .int x3, .int x4, .int x5, .int x6, .int x7, .null, .null, .null, .int (w.1 50 x6.toNatClampNeg)]) (st := []) (w := updI w 51 x6.toNatClampNeg ((w.1 51 x6.toNatClampNeg) + 1)) rfl h13).trans <|
    (runs_stps (q' := (249, [.ref 34, .null, .int x2, .int x3, .int x4, .int x5, .int (x6 + 1), .int x7, .null, .null, .null, .int (w.1 50 x6.toNatClampNeg)], [.int (w.1 50 x6.toNatClampNeg), .int (x6 + 1), .ref 50], updI w 51 x6.toNatClampNeg ((w.1 51 x6.toNatClampNeg) + 1))) 5 rfl).trans <|
    (runs_ck (q' := (250, [.ref 34, .null, .int x2, .int x3, .int x4, .int x5, .int (x6 + 1), .int x7, .null, .null, .null, .int (w.1 50 x6.toNatClampNeg)], [], updI (updI w 51 x6.toNatClampNeg ((w.1 51 x6.toNatClampNeg) + 1)) 50 ((x6 + 1).toNatClampNeg) (w.1 50 x6.toNatClampNeg))) rfl h14).trans <|
    (runs_stps (q' := (254, [.ref 34, .null, .int x2, .int x3, .int x4, .int x5, .int (x6 + 1), .int x7, .null, .null, .null, .int (w.1 50 x6.toNatClampNeg)], [.int x4, .int (x6 + 1)], updI (updI w 51 x6.toNatClampNeg ((w.1 51 x6.toNatClampNeg) + 1)) 50 ((x6 + 1).toNatClampNeg) (w.1 50 x6.toNatClampNeg))) 2 rfl).trans <|
    (runs_if_f (a := 285) (b := 257) (L := [.ref 34, .null, .int x2, .int x3, .int x4, .int x5, .int (x6 + 1), .int x7, .null, .null, .null, .int (w.1 50 x6.toNatClampNeg)]) (st := []) (w := updI (updI w 51 x6.toNatClampNeg ((w.1 51 x6.toNatClampNeg) + 1)) 50 ((x6 + 1).toNatClampNeg) (w.1 50 x6.toNatClampNeg)) rfl h15).trans <|
    (runs_stps (q' := (264, [.ref 34, .null, .int x2, .int x3, .int x4, .int x5, .int (x6 + 1), .int x7, .null, .null, .null, .int (w.1 50 x6.toNatClampNeg)], [.int (-1), .int (x6 + 1), .ref 51], updI (updI w 51 x6.toNatClampNeg ((w.1 51 x6.toNatClampNeg) + 1)) 50 ((x6 + 1).toNatClampNeg) (w.1 50 x6.toNatClampNeg))) 4 rfl).trans <|
    (runs_ck (q' := (265, [.ref 34, .null, .int x2, .int x3, .int x4, .int x5, .int (x6 + 1), .int x7, .null, .null, .null, .int (w.1 50 x6.toNatClampNeg)], [], updI (updI (updI w 51 x6.toNatClampNeg ((w.1 51 x6.toNatClampNeg) + 1)) 50 ((x6 + 1).toNatClampNeg) (w.1 50 x6.toNatClampNeg)) 51 ((x6 + 1).toNatClampNeg) (-1))) rfl h16).trans <|
    (runs_stps (q' := (275, [.ref 34, .null, .int x2, .int x3, .int x4, .int x5, .int (x6 + 1), .int x7, .null, .null, .null, .int (w.1 50 x6.toNatClampNeg)], [.int ((x6 + 1) - (x6 + 1) / 2 * 2), .int (x6 + 1), .ref 52], updI (updI (updI w 51 x6.toNatClampNeg ((w.1 51 x6.toNatClampNeg) + 1)) 50 ((x6 + 1).toNatClampNeg) (w.1 50 x6.toNatClampNeg)) 51 ((x6 + 1).toNatClampNeg) (-1))) 6 rfl).trans <|
    (runs_if_f (a := 278) (b := 283) (L := [.ref 34, .null, .int x2, .int x3, .int x4, .int x5, .int (x6 + 1), .int x7, .null, .null, .null, .int (w.1 50 x6.toNatClampNeg)]) (st := [.int (x6 + 1), .ref 52]) (w := updI (updI (updI w 51 x6.toNatClampNeg ((w.1 51 x6.toNatClampNeg) + 1)) 50 ((x6 + 1).toNatClampNeg) (w.1 50 x6.toNatClampNeg)) 51 ((x6 + 1).toNatClampNeg) (-1)) rfl h17).trans <|
    (runs_stps (q' := (284, [.ref 34, .null, .int x2, .int x3, .int x4, .int x5, .int (x6 + 1), .int x7, .null, .null, .null, .null], [.int 1, .int (x6 + 1), .ref 52], updI (updI (updI w 51 x6.toNatClampNeg ((w.1 51 x6.toNatClampNeg) + 1)) 50 ((x6 + 1).toNatClampNeg) (w.1 50 x6.toNatClampNeg)) 51 ((x6 + 1).toNatClampNeg) (-1))) 1 rfl).trans <|
    (runs_ck (q' := (285, [.ref 34, .null, .int x2, .int x3, .int x4, .int x5, .int (x6 + 1), .int x7, .null, .null, .null, .null], [], updI (updI (updI (updI w 51 x6.toNatClampNeg ((w.1 51 x6.toNatClampNeg) + 1)) 50 ((x6 + 1).toNatClampNeg) (w.1 50 x6.toNatClampNeg)) 51 ((x6 + 1).toNatClampNeg) (-1)) 52 ((x6 + 1).toNatClampNeg) 1)) rfl h18).trans <|
    (runs_stps (q' := (38, [.ref 34, .null, .int x2, .int x3, .int x4, .int x5, .int (x6 + 1), .int x7, .null, .null, .null, .null], [], updI (updI (updI (updI w 51 x6.toNatClampNeg ((w.1 51 x6.toNatClampNeg) + 1)) 50 ((x6 + 1).toNatClampNeg) (w.1 50 x6.toNatClampNeg)) 51 ((x6 + 1).toNatClampNeg) (-1)) 52 ((x6 + 1).toNatClampNeg) 1)) 1 rfl).trans <|
    rfl
theorem p_X9_played_38FFFFFTFFFF_L38 {ex : Ex} {v1 : Value} {x2 : Int32} {x3 : Int32} {x4 : Int32} {x5 : Int32} {x6 : Int32} {x7 : Int32} {v8 : Value} {v9 : Value} {v10 : Value} {v11 : Value} {w : Wd} (h1 : ¬ x6 < 0) (h2 : (x6 - x6 / 2 * 2) = 0) (h3 : x6 = x4) (h4 : (1 : Int32) = 0) (h5 : vp_in x6 4) (h6 : (w.1 51 x6.toNatClampNeg) = 7) (h7 : (1 : Int32) = 0) (h8 : vp_in x6 4) (h9 : vp_in x6 4) (h10 : vp_in x6 4) (h11 : ((updI w 51 x6.toNatClampNeg ((w.1 51 x6.toNatClampNeg) + 1)).1 51 x6.toNatClampNeg) = 7) (h12 : vp_in x6 5) (h13 : ¬ (w.1 50 x6.toNatClampNeg) = (-9)) (h14 : vp_in (x6 + 1) 5) (h15 : ¬ x4 ≤ (x6 + 1)) (h16 : vp_in (x6 + 1) 4) (h17 : ((x6 + 1) - (x6 + 1) / 2 * 2) = 0) (h18 : vp_in (x6 + 1) 4) : runs (T_X9_played ex) (38, [.ref 34, v1, .int x2, .int x3, .int x4, .int x5, .int x6, .int x7, v8, v9, v10, v11], [], w) = runs (T_X9_played ex) (38, [.ref 34, .null, .int x2, .int x3, .int x4, .int x5, .int (x6 + 1), .int x7, .null, .null, .null, .null], [], updI (updI (updI (updI w 51 x6.toNatClampNeg ((w.1 51 x6.toNatClampNeg) + 1)) 50 ((x6 + 1).toNatClampNeg) (w.1 50 x6.toNatClampNeg)) 51 ((x6 + 1).toNatClampNeg) (-1)) 52 ((x6 + 1).toNatClampNeg) (-9)) := 
    (runs_stps (q' := (40, [.ref 34, .null, .int x2, .int x3, .int x4, .int x5, .int x6, .int x7, .null, .null, .null, .null], [.int x6], w)) 1 rfl).trans <|
    (runs_if_f (a := 288) (b := 43) (L := [.ref 34, .null, .int x2, .int x3, .int x4, .int x5, .int x6, .int x7, .null, .null, .null, .null]) (st := []) (w := w) rfl h1).trans <|
    (runs_stps (q' := (47, [.ref 34, .null, .int x2, .int x3, .int x4, .int x5, .int x6, .int x7, .null, .null, .null, .null], [.int (x6 - x6 / 2 * 2)], w)) 3 rfl).trans <|
    (runs_if_t (a := 50) (b := 54) (L := [.ref 34, .null, .int x2, .int x3, .int x4, .int x5, .int x6, .int x7, .null, .null, .null, .null]) (st := []) (w := w) rfl h2).trans <|
    (runs_stps (q' := (61, [.ref 34, .null, .int x2, .int x3, .int x4, .int x5, .int x6, .int x7, .int x2, .null, .null, .null], [.int x4, .int x6], w)) 5 rfl).trans <|
    (runs_if_t (a := 64) (b := 68) (L := [.ref 34, .null, .int x2, .int x3, .int x4, .int x5, .int x6, .int x7, .int x2, .null, .null, .null]) (st := []) (w := w) rfl h3).trans <|
    (runs_stps (q' := (73, [.ref 34, .null, .int x2, .int x3, .int x4, .int x5, .int x6, .int x7, .int x2, .int 1, .null, .null], [.int 1], w)) 4 rfl).trans <|
    (runs_if_t (a := 76) (b := 88) (L := [.ref 34, .null, .int x2, .int x3, .int x4, .int x5, .int x6, .int x7, .int x2, .int 1, .null, .null]) (st := []) (w := w) rfl h4).trans <|
    (runs_stps (q' := (82, [.ref 34, .null, .int x2, .int x3, .int x4, .int x5, .int x6, .int x7, .int x2, .int 1, .null, .null], [.int x6, .ref 51], w)) 3 rfl).trans <|
    (runs_ck (q' := (83, [.ref 34, .null, .int x2, .int x3, .int x4, .int x5, .int x6, .int x7, .int x2, .int 1, .null, .null], [.int (w.1 51 x6.toNatClampNeg)], w)) rfl h5).trans <|
    (runs_stps (q' := (85, [.ref 34, .null, .int x2, .int x3, .int x4, .int x5, .int x6, .int x7, .int x2, .int 1, .null, .null], [.int 7, .int (w.1 51 x6.toNatClampNeg)], w)) 1 rfl).trans <|
    (runs_if_t (a := 88) (b := 92) (L := [.ref 34, .null, .int x2, .int x3, .int x4, .int x5, .int x6, .int x7, .int x2, .int 1, .null, .null]) (st := []) (w := w) rfl h6).trans <|
    (runs_stps (q' := (97, [.ref 34, .null, .int x2, .int x3, .int x4, .int x5, .int x6, .int x7, .int x2, .int 1, .int 1, .null], [.int 1], w)) 4 rfl).trans <|
    (runs_if_t (a := 174) (b := 100) (L := [.ref 34, .null, .int x2, .int x3, .int x4, .int x5, .int x6, .int x7, .int x2, .int 1, .int 1, .null]) (st := []) (w := w) rfl h7).trans <|
    (runs_stps (q' := (181, [.ref 34, .null, .int x2, .int x3, .int x4, .int x5, .int x6, .int x7, .int x2, .null, .null, .null], [.int x6, .ref 51, .int x6, .ref 51], w)) 4 rfl).trans <|
    (runs_ck (q' := (182, [.ref 34, .null, .int x2, .int x3, .int x4, .int x5, .int x6, .int x7, .int x2, .null, .null, .null], [.int (w.1 51 x6.toNatClampNeg), .int x6, .ref 51], w)) rfl h8).trans <|
    (runs_stps (q' := (184, [.ref 34, .null, .int x2, .int x3, .int x4, .int x5, .int x6, .int x7, .int x2, .null, .null, .null], [.int ((w.1 51 x6.toNatClampNeg) + 1), .int x6, .ref 51], w)) 2 rfl).trans <|
    (runs_ck (q' := (185, [.ref 34, .null, .int x2, .int x3, .int x4, .int x5, .int x6, .int x7, .int x2, .null, .null, .null], [], updI w 51 x6.toNatClampNeg ((w.1 51 x6.toNatClampNeg) + 1))) rfl h9).trans <|
    (runs_stps (q' := (191, [.ref 34, .null, .int x2, .int x3, .int x4, .int x5, .int x6, .int x7, .int x2, .null, .null, .null], [.int x6, .ref 51], updI w 51 x6.toNatClampNeg ((w.1 51 x6.toNatClampNeg) + 1))) 3 rfl).trans <|
    (runs_ck (q' := (192, [.ref 34, .null, .int x2, .int x3, .int x4, .int x5, .int x6, .int x7, .int x2, .null, .null, .null], [.int ((updI w 51 x6.toNatClampNeg ((w.1 51 x6.toNatClampNeg) + 1)).1 51 x6.toNatClampNeg)], updI w 51 x6.toNatClampNeg ((w.1 51 x6.toNatClampNeg) + 1))) rfl h10).trans <|
    (runs_stps (q' := (194, [.ref 34, .null, .int x2, .int x3, .int x4, .int x5, .int x6, .int x7, .int x2, .null, .null, .null], [.int 7, .int ((updI w 51 x6.toNatClampNeg ((w.1 51 x6.toNatClampNeg) + 1)).1 51 x6.toNatClampNeg)], updI w 51 x6.toNatClampNeg ((w.1 51 x6.toNatClampNeg) + 1))) 1 rfl).trans <|
    (runs_if_t (a := 197) (b := 207) (L := [.ref 34, .null, .int x2, .int x3, .int x4, .int x5, .int x6, .int x7, .int x2, .null, .null, .null]) (st := []) (w := updI w 51 x6.toNatClampNeg ((w.1 51 x6.toNatClampNeg) + 1)) rfl h11).trans <|
    (runs_stps (q' := (203, [.ref 34, .null, .int x2, .int x3, .int x4, .int x5, .int x6, .int x7, .int x2, .null, .null, .null], [.int x6, .ref 50], updI w 51 x6.toNatClampNeg ((w.1 51 x6.toNatClampNeg) + 1))) 3 rfl).trans <|
    (runs_ck (q' := (204, [.ref 34, .null, .int x2, .int x3, .int x4, .int x5, .int x6, .int x7, .int x2, .null, .null, .null], [.int (w.1 50 x6.toNatClampNeg)], updI w 51 x6.toNatClampNeg ((w.1 51 x6.toNatClampNeg) + 1))) rfl h12).trans <|
    (runs_stps (q' := (235, [.ref 34, .null, .int x2, .int x3, .int x4, .int x5, .int x6, .int x7, .null, .null, .null, .int (w.1 50 x6.toNatClampNeg)], [.int (-9), .int (w.1 50 x6.toNatClampNeg)], updI w 51 x6.toNatClampNeg ((w.1 51 x6.toNatClampNeg) + 1))) 4 rfl).trans <|
    (runs_if_f (a := 285) (b := 238) (L := [.ref 34, .null, .int x2, .int x3, .int x4, .int x5, .int x6, .int x7, .null, .null, .null, .int (w.1 50 x6.toNatClampNeg)]) (st := []) (w := updI w 51 x6.toNatClampNeg ((w.1 51 x6.toNatClampNeg) + 1)) rfl h13).trans <|
    (runs_stps (q' := (249, [.ref 34, .null, .int x2, .int x3, .int x4, .int x5, .int (x6 + 1), .int x7, .null, .null, .null, .int (w.1 50 x6.toNatClampNeg)], [.int (w.1 50 x6.toNatClampNeg), .int (x6 + 1), .ref 50], updI w 51 x6.toNatClampNeg ((w.1 51 x6.toNatClampNeg) + 1))) 5 rfl).trans <|
    (runs_ck (q' := (250, [.ref 34, .null, .int x2, .int x3, .int x4, .int x5, .int (x6 + 1), .int x7, .null, .null, .null, .int (w.1 50 x6.toNatClampNeg)], [], updI (updI w 51 x6.toNatClampNeg ((w.1 51 x6.toNatClampNeg) + 1)) 50 ((x6 + 1).toNatClampNeg) (w.1 50 x6.toNatClampNeg))) rfl h14).trans <|
    (runs_stps (q' := (254, [.ref 34, .null, .int x2, .int x3, .int x4, .int x5, .int (x6 + 1), .int x7, .null, .null, .null, .int (w.1 50 x6.toNatClampNeg)], [.int x4, .int (x6 + 1)], updI (updI w 51 x6.toNatClampNeg ((w.1 51 x6.toNatClampNeg) + 1)) 50 ((x6 + 1).toNatClampNeg) (w.1 50 x6.toNatClampNeg))) 2 rfl).trans <|
    (runs_if_f (a := 285) (b := 257) (L := [.ref 34, .null, .int x2, .int x3, .int x4, .int x5, .int (x6 + 1), .int x7, .null, .null, .null, .int (w.1 50 x6.toNatClampNeg)]) (st := []) (w := updI (updI w 51 x6.toNatClampNeg ((w.1 51 x6.toNatClampNeg) + 1)) 50 ((x6 + 1).toNatClampNeg) (w.1 50 x6.toNatClampNeg)) rfl h15).trans <|
    (runs_stps (q' := (264, [.ref 34, .null, .int x2, .int x3, .int x4, .int x5, .int (x6 + 1), .int x7, .null, .null, .null, .int (w.1 50 x6.toNatClampNeg)], [.int (-1), .int (x6 + 1), .ref 51], updI (updI w 51 x6.toNatClampNeg ((w.1 51 x6.toNatClampNeg) + 1)) 50 ((x6 + 1).toNatClampNeg) (w.1 50 x6.toNatClampNeg))) 4 rfl).trans <|
    (runs_ck (q' := (265, [.ref 34, .null, .int x2, .int x3, .int x4, .int x5, .int (x6 + 1), .int x7, .null, .null, .null, .int (w.1 50 x6.toNatClampNeg)], [], updI (updI (updI w 51 x6.toNatClampNeg ((w.1 51 x6.toNatClampNeg) + 1)) 50 ((x6 + 1).toNatClampNeg) (w.1 50 x6.toNatClampNeg)) 51 ((x6 + 1).toNatClampNeg) (-1))) rfl h16).trans <|
    (runs_stps (q' := (275, [.ref 34, .null, .int x2, .int x3, .int x4, .int x5, .int (x6 + 1), .int x7, .null, .null, .null, .int (w.1 50 x6.toNatClampNeg)], [.int ((x6 + 1) - (x6 + 1) / 2 * 2), .int (x6 + 1), .ref 52], updI (updI (updI w 51 x6.toNatClampNeg ((w.1 51 x6.toNatClampNeg) + 1)) 50 ((x6 + 1).toNatClampNeg) (w.1 50 x6.toNatClampNeg)) 51 ((x6 + 1).toNatClampNeg) (-1))) 6 rfl).trans <|
    (runs_if_t (a := 278) (b := 283) (L := [.ref 34, .null, .int x2, .int x3, .int x4, .int x5, .int (x6 + 1), .int x7, .null, .null, .null, .int (w.1 50 x6.toNatClampNeg)]) (st := [.int (x6 + 1), .ref 52]) (w := updI (updI (updI w 51 x6.toNatClampNeg ((w.1 51 x6.toNatClampNeg) + 1)) 50 ((x6 + 1).toNatClampNeg) (w.1 50 x6.toNatClampNeg)) 51 ((x6 + 1).toNatClampNeg) (-1)) rfl h17).trans <|
    (runs_stps (q' := (284, [.ref 34, .null, .int x2, .int x3, .int x4, .int x5, .int (x6 + 1), .int x7, .null, .null, .null, .int (w.1 50 x6.toNatClampNeg)], [.int (-9), .int (x6 + 1), .ref 52], updI (updI (updI w 51 x6.toNatClampNeg ((w.1 51 x6.toNatClampNeg) + 1)) 50 ((x6 + 1).toNatClampNeg) (w.1 50 x6.toNatClampNeg)) 51 ((x6 + 1).toNatClampNeg) (-1))) 2 rfl).trans <|
    (runs_ck (q' := (285, [.ref 34, .null, .int x2, .int x3, .int x4, .int x5, .int (x6 + 1), .int x7, .null, .null, .null, .null], [], updI (updI (updI (updI w 51 x6.toNatClampNeg ((w.1 51 x6.toNatClampNeg) + 1)) 50 ((x6 + 1).toNatClampNeg) (w.1 50 x6.toNatClampNeg)) 51 ((x6 + 1).toNatClampNeg) (-1)) 52 ((x6 + 1).toNatClampNeg) (-9))) rfl h18).trans <|
    (runs_stps (q' := (38, [.ref 34, .null, .int x2, .int x3, .int x4, .int x5, .int (x6 + 1), .int x7, .null, .null, .null, .null], [], updI (updI (updI (updI w 51 x6.toNatClampNeg ((w.1 51 x6.toNatClampNeg) + 1)) 50 ((x6 + 1).toNatClampNeg) (w.1 50 x6.toNatClampNeg)) 51 ((x6 + 1).toNatClampNeg) (-1)) 52 ((x6 + 1).toNatClampNeg) (-9))) 1 rfl).trans <|
    rfl
theorem p_X9_played_38FFFFFFTT_L38 {ex : Ex} {v1 : Value} {x2 : Int32} {x3 : Int32} {x4 : Int32} {x5 : Int32} {x6 : Int32} {x7 : Int32} {v8 : Value} {v9 : Value} {v10 : Value} {v11 : Value} {w1 : Wd} {w : Wd} (h1 : ¬ x6 < 0) (h2 : (x6 - x6 / 2 * 2) = 0) (h3 : x6 = x4) (h4 : (1 : Int32) = 0) (h5 : vp_in x6 4) (h6 : (w.1 51 x6.toNatClampNeg) = 7) (h7 : ¬ (1 : Int32) = 0) (h8 : (1 : Int32) = 0) (h9 : ¬ (x6 - x6 / 2 * 2) = 0) (h10 : vp_in x6 4) (h11 : ex 188 [.ref 34, .int (x6 + (-1)), .int (w.1 52 x6.toNatClampNeg)] w = some (none, w1)) : runs (T_X9_played ex) (38, [.ref 34, v1, .int x2, .int x3, .int x4, .int x5, .int x6, .int x7, v8, v9, v10, v11], [], w) = runs (T_X9_played ex) (38, [.ref 34, .null, .int x2, .int x3, .int x4, .int x5, .int (x6 + (-1)), .int (w.1 52 x6.toNatClampNeg), .null, .null, .null, .null], [], w1) := 
    (runs_stps (q' := (40, [.ref 34, .null, .int x2, .int x3, .int x4, .int x5, .int x6, .int x7, .null, .null, .null, .null], [.int x6], w)) 1 rfl).trans <|
    (runs_if_f (a := 288) (b := 43) (L := [.ref 34, .null, .int x2, .int x3, .int x4, .int x5, .int x6, .int x7, .null, .null, .null, .null]) (st := []) (w := w) rfl h1).trans <|
    (runs_stps (q' := (47, [.ref 34, .null, .int x2, .int x3, .int x4, .int x5, .int x6, .int x7, .null, .null, .null, .null], [.int (x6 - x6 / 2 * 2)], w)) 3 rfl).trans <|
    (runs_if_t (a := 50) (b := 54) (L := [.ref 34, .null, .int x2, .int x3, .int x4, .int x5, .int x6, .int x7, .null, .null, .null, .null]) (st := []) (w := w) rfl h2).trans <|
    (runs_stps (q' := (61, [.ref 34, .null, .int x2, .int x3, .int x4, .int x5, .int x6, .int x7, .int x2, .null, .null, .null], [.int x4, .int x6], w)) 5 rfl).trans <|
    (runs_if_t (a := 64) (b := 68) (L := [.ref 34, .null, .int x2, .int x3, .int x4, .int x5, .int x6, .int x7, .int x2, .null, .null, .null]) (st := []) (w := w) rfl h3).trans <|
    (runs_stps (q' := (73, [.ref 34, .null, .int x2, .int x3, .int x4, .int x5, .int x6, .int x7, .int x2, .int 1, .null, .null], [.int 1], w)) 4 rfl).trans <|
    (runs_if_t (a := 76) (b := 88) (L := [.ref 34, .null, .int x2, .int x3, .int x4, .int x5, .int x6, .int x7, .int x2, .int 1, .null, .null]) (st := []) (w := w) rfl h4).trans <|
    (runs_stps (q' := (82, [.ref 34, .null, .int x2, .int x3, .int x4, .int x5, .int x6, .int x7, .int x2, .int 1, .null, .null], [.int x6, .ref 51], w)) 3 rfl).trans <|
    (runs_ck (q' := (83, [.ref 34, .null, .int x2, .int x3, .int x4, .int x5, .int x6, .int x7, .int x2, .int 1, .null, .null], [.int (w.1 51 x6.toNatClampNeg)], w)) rfl h5).trans <|
    (runs_stps (q' := (85, [.ref 34, .null, .int x2, .int x3, .int x4, .int x5, .int x6, .int x7, .int x2, .int 1, .null, .null], [.int 7, .int (w.1 51 x6.toNatClampNeg)], w)) 1 rfl).trans <|
    (runs_if_t (a := 88) (b := 92) (L := [.ref 34, .null, .int x2, .int x3, .int x4, .int x5, .int x6, .int x7, .int x2, .int 1, .null, .null]) (st := []) (w := w) rfl h6).trans <|
    (runs_stps (q' := (97, [.ref 34, .null, .int x2, .int x3, .int x4, .int x5, .int x6, .int x7, .int x2, .int 1, .int 1, .null], [.int 1], w)) 4 rfl).trans <|
    (runs_if_f (a := 174) (b := 100) (L := [.ref 34, .null, .int x2, .int x3, .int x4, .int x5, .int x6, .int x7, .int x2, .int 1, .int 1, .null]) (st := []) (w := w) rfl h7).trans <|
    (runs_stps (q' := (102, [.ref 34, .null, .int x2, .int x3, .int x4, .int x5, .int x6, .int x7, .int x2, .int 1, .int 1, .null], [.int 1], w)) 1 rfl).trans <|
    (runs_if_t (a := 124) (b := 105) (L := [.ref 34, .null, .int x2, .int x3, .int x4, .int x5, .int x6, .int x7, .int x2, .int 1, .int 1, .null]) (st := []) (w := w) rfl h8).trans <|
    (runs_stps (q' := (128, [.ref 34, .null, .int x2, .int x3, .int x4, .int x5, .int x6, .null, .null, .null, .null, .null], [.int (x6 - x6 / 2 * 2)], w)) 3 rfl).trans <|
    (runs_if_f (a := 131) (b := 151) (L := [.ref 34, .null, .int x2, .int x3, .int x4, .int x5, .int x6, .null, .null, .null, .null, .null]) (st := []) (w := w) rfl h9).trans <|
    (runs_stps (q' := (157, [.ref 34, .null, .int x2, .int x3, .int x4, .int x5, .int x6, .null, .null, .null, .null, .null], [.int x6, .ref 52], w)) 3 rfl).trans <|
    (runs_ck (q' := (158, [.ref 34, .null, .int x2, .int x3, .int x4, .int x5, .int x6, .null, .null, .null, .null, .null], [.int (w.1 52 x6.toNatClampNeg)], w)) rfl h10).trans <|
    (runs_stps (q' := (168, [.ref 34, .null, .int x2, .int x3, .int x4, .int x5, .int (x6 + (-1)), .int (w.1 52 x6.toNatClampNeg), .null, .null, .null, .null], [.int (w.1 52 x6.toNatClampNeg), .int (x6 + (-1)), .ref 34], w)) 5 rfl).trans <|
    (runs_callV (rv := none) (w' := w1) rfl rfl rfl rfl h11).trans <|
    (runs_stps (q' := (38, [.ref 34, .null, .int x2, .int x3, .int x4, .int x5, .int (x6 + (-1)), .int (w.1 52 x6.toNatClampNeg), .null, .null, .null, .null], [], w1)) 2 rfl).trans <|
    rfl
theorem p_X9_played_38FFFFFFTFT_L38 {ex : Ex} {v1 : Value} {x2 : Int32} {x3 : Int32} {x4 : Int32} {x5 : Int32} {x6 : Int32} {x7 : Int32} {v8 : Value} {v9 : Value} {v10 : Value} {v11 : Value} {w1 : Wd} {w : Wd} (h1 : ¬ x6 < 0) (h2 : (x6 - x6 / 2 * 2) = 0) (h3 : x6 = x4) (h4 : (1 : Int32) = 0) (h5 : vp_in x6 4) (h6 : (w.1 51 x6.toNatClampNeg) = 7) (h7 : ¬ (1 : Int32) = 0) (h8 : (1 : Int32) = 0) (h9 : (x6 - x6 / 2 * 2) = 0) (h10 : vp_in x6 4) (h11 : ¬ (w.1 52 x6.toNatClampNeg) = (-9)) (h12 : ex 188 [.ref 34, .int (x6 + (-1)), .int 1] w = some (none, w1)) : runs (T_X9_played ex) (38, [.ref 34, v1, .int x2, .int x3, .int x4, .int x5, .int x6, .int x7, v8, v9, v10, v11], [], w) = runs (T_X9_played ex) (38, [.ref 34, .null, .int x2, .int x3, .int x4, .int x5, .int (x6 + (-1)), .int 1, .null, .null, .null, .null], [], w1) := 
    (runs_stps (q' := (40, [.ref 34, .null, .int x2, .int x3, .int x4, .int x5, .int x6, .int x7, .null, .null, .null, .null], [.int x6], w)) 1 rfl).trans <|
    (runs_if_f (a := 288) (b := 43) (L := [.ref 34, .null, .int x2, .int x3, .int x4, .int x5, .int x6, .int x7, .null, .null, .null, .null]) (st := []) (w := w) rfl h1).trans <|
    (runs_stps (q' := (47, [.ref 34, .null, .int x2, .int x3, .int x4, .int x5, .int x6, .int x7, .null, .null, .null, .null], [.int (x6 - x6 / 2 * 2)], w)) 3 rfl).trans <|
    (runs_if_t (a := 50) (b := 54) (L := [.ref 34, .null, .int x2, .int x3, .int x4, .int x5, .int x6, .int x7, .null, .null, .null, .null]) (st := []) (w := w) rfl h2).trans <|
    (runs_stps (q' := (61, [.ref 34, .null, .int x2, .int x3, .int x4, .int x5, .int x6, .int x7, .int x2, .null, .null, .null], [.int x4, .int x6], w)) 5 rfl).trans <|
    (runs_if_t (a := 64) (b := 68) (L := [.ref 34, .null, .int x2, .int x3, .int x4, .int x5, .int x6, .int x7, .int x2, .null, .null, .null]) (st := []) (w := w) rfl h3).trans <|
    (runs_stps (q' := (73, [.ref 34, .null, .int x2, .int x3, .int x4, .int x5, .int x6, .int x7, .int x2, .int 1, .null, .null], [.int 1], w)) 4 rfl).trans <|
    (runs_if_t (a := 76) (b := 88) (L := [.ref 34, .null, .int x2, .int x3, .int x4, .int x5, .int x6, .int x7, .int x2, .int 1, .null, .null]) (st := []) (w := w) rfl h4).trans <|
    (runs_stps (q' := (82, [.ref 34, .null, .int x2, .int x3, .int x4, .int x5, .int x6, .int x7, .int x2, .int 1, .null, .null], [.int x6, .ref 51], w)) 3 rfl).trans <|
    (runs_ck (q' := (83, [.ref 34, .null, .int x2, .int x3, .int x4, .int x5, .int x6, .int x7, .int x2, .int 1, .null, .null], [.int (w.1 51 x6.toNatClampNeg)], w)) rfl h5).trans <|
    (runs_stps (q' := (85, [.ref 34, .null, .int x2, .int x3, .int x4, .int x5, .int x6, .int x7, .int x2, .int 1, .null, .null], [.int 7, .int (w.1 51 x6.toNatClampNeg)], w)) 1 rfl).trans <|
    (runs_if_t (a := 88) (b := 92) (L := [.ref 34, .null, .int x2, .int x3, .int x4, .int x5, .int x6, .int x7, .int x2, .int 1, .null, .null]) (st := []) (w := w) rfl h6).trans <|
    (runs_stps (q' := (97, [.ref 34, .null, .int x2, .int x3, .int x4, .int x5, .int x6, .int x7, .int x2, .int 1, .int 1, .null], [.int 1], w)) 4 rfl).trans <|
    (runs_if_f (a := 174) (b := 100) (L := [.ref 34, .null, .int x2, .int x3, .int x4, .int x5, .int x6, .int x7, .int x2, .int 1, .int 1, .null]) (st := []) (w := w) rfl h7).trans <|
    (runs_stps (q' := (102, [.ref 34, .null, .int x2, .int x3, .int x4, .int x5, .int x6, .int x7, .int x2, .int 1, .int 1, .null], [.int 1], w)) 1 rfl).trans <|
    (runs_if_t (a := 124) (b := 105) (L := [.ref 34, .null, .int x2, .int x3, .int x4, .int x5, .int x6, .int x7, .int x2, .int 1, .int 1, .null]) (st := []) (w := w) rfl h8).trans <|
    (runs_stps (q' := (128, [.ref 34, .null, .int x2, .int x3, .int x4, .int x5, .int x6, .null, .null, .null, .null, .null], [.int (x6 - x6 / 2 * 2)], w)) 3 rfl).trans <|
    (runs_if_t (a := 131) (b := 151) (L := [.ref 34, .null, .int x2, .int x3, .int x4, .int x5, .int x6, .null, .null, .null, .null, .null]) (st := []) (w := w) rfl h9).trans <|
    (runs_stps (q' := (137, [.ref 34, .null, .int x2, .int x3, .int x4, .int x5, .int x6, .null, .null, .null, .null, .null], [.int x6, .ref 52], w)) 3 rfl).trans <|
    (runs_ck (q' := (138, [.ref 34, .null, .int x2, .int x3, .int x4, .int x5, .int x6, .null, .null, .null, .null, .null], [.int (w.1 52 x6.toNatClampNeg)], w)) rfl h10).trans <|
    (runs_stps (q' := (140, [.ref 34, .null, .int x2, .int x3, .int x4, .int x5, .int x6, .null, .null, .null, .null, .null], [.int (-9), .int (w.1 52 x6.toNatClampNeg)], w)) 1 rfl).trans <|
    (runs_if_f (a := 143) (b := 147) (L := [.ref 34, .null, .int x2, .int x3, .int x4, .int x5, .int x6, .null, .null, .null, .null, .null]) (st := []) (w := w) rfl h11).trans <|
    (runs_stps (q' := (168, [.ref 34, .null, .int x2, .int x3, .int x4, .int x5, .int (x6 + (-1)), .int 1, .null, .null, .null, .null], [.int 1, .int (x6 + (-1)), .ref 34], w)) 7 rfl).trans <|
    (runs_callV (rv := none) (w' := w1) rfl rfl rfl rfl h12).trans <|
    (runs_stps (q' := (38, [.ref 34, .null, .int x2, .int x3, .int x4, .int x5, .int (x6 + (-1)), .int 1, .null, .null, .null, .null], [], w1)) 2 rfl).trans <|
    rfl
theorem p_X9_played_38FFFFFFTFF_L38 {ex : Ex} {v1 : Value} {x2 : Int32} {x3 : Int32} {x4 : Int32} {x5 : Int32} {x6 : Int32} {x7 : Int32} {v8 : Value} {v9 : Value} {v10 : Value} {v11 : Value} {w1 : Wd} {w : Wd} (h1 : ¬ x6 < 0) (h2 : (x6 - x6 / 2 * 2) = 0) (h3 : x6 = x4) (h4 : (1 : Int32) = 0) (h5 : vp_in x6 4) (h6 : (w.1 51 x6.toNatClampNeg) = 7) (h7 : ¬ (1 : Int32) = 0) (h8 : (1 : Int32) = 0) (h9 : (x6 - x6 / 2 * 2) = 0) (h10 : vp_in x6 4) (h11 : (w.1 52 x6.toNatClampNeg) = (-9)) (h12 : ex 188 [.ref 34, .int (x6 + (-1)), .int 0] w = some (none, w1)) : runs (T_X9_played ex) (38, [.ref 34, v1, .int x2, .int x3, .int x4, .int x5, .int x6, .int x7, v8, v9, v10, v11], [], w) = runs (T_X9_played ex) (38, [.ref 34, .null, .int x2, .int x3, .int x4, .int x5, .int (x6 + (-1)), .int 0, .null, .null, .null, .null], [], w1) := 
    (runs_stps (q' := (40, [.ref 34, .null, .int x2, .int x3, .int x4, .int x5, .int x6, .int x7, .null, .null, .null, .null], [.int x6], w)) 1 rfl).trans <|
    (runs_if_f (a := 288) (b := 43) (L := [.ref 34, .null, .int x2, .int x3, .int x4, .int x5, .int x6, .int x7, .null, .null, .null, .null]) (st := []) (w := w) rfl h1).trans <|
    (runs_stps (q' := (47, [.ref 34, .null, .int x2, .int x3, .int x4, .int x5, .int x6, .int x7, .null, .null, .null, .null], [.int (x6 - x6 / 2 * 2)], w)) 3 rfl).trans <|
    (runs_if_t (a := 50) (b := 54) (L := [.ref 34, .null, .int x2, .int x3, .int x4, .int x5, .int x6, .int x7, .null, .null, .null, .null]) (st := []) (w := w) rfl h2).trans <|
    (runs_stps (q' := (61, [.ref 34, .null, .int x2, .int x3, .int x4, .int x5, .int x6, .int x7, .int x2, .null, .null, .null], [.int x4, .int x6], w)) 5 rfl).trans <|
    (runs_if_t (a := 64) (b := 68) (L := [.ref 34, .null, .int x2, .int x3, .int x4, .int x5, .int x6, .int x7, .int x2, .null, .null, .null]) (st := []) (w := w) rfl h3).trans <|
    (runs_stps (q' := (73, [.ref 34, .null, .int x2, .int x3, .int x4, .int x5, .int x6, .int x7, .int x2, .int 1, .null, .null], [.int 1], w)) 4 rfl).trans <|
    (runs_if_t (a := 76) (b := 88) (L := [.ref 34, .null, .int x2, .int x3, .int x4, .int x5, .int x6, .int x7, .int x2, .int 1, .null, .null]) (st := []) (w := w) rfl h4).trans <|
    (runs_stps (q' := (82, [.ref 34, .null, .int x2, .int x3, .int x4, .int x5, .int x6, .int x7, .int x2, .int 1, .null, .null], [.int x6, .ref 51], w)) 3 rfl).trans <|
    (runs_ck (q' := (83, [.ref 34, .null, .int x2, .int x3, .int x4, .int x5, .int x6, .int x7, .int x2, .int 1, .null, .null], [.int (w.1 51 x6.toNatClampNeg)], w)) rfl h5).trans <|
    (runs_stps (q' := (85, [.ref 34, .null, .int x2, .int x3, .int x4, .int x5, .int x6, .int x7, .int x2, .int 1, .null, .null], [.int 7, .int (w.1 51 x6.toNatClampNeg)], w)) 1 rfl).trans <|
    (runs_if_t (a := 88) (b := 92) (L := [.ref 34, .null, .int x2, .int x3, .int x4, .int x5, .int x6, .int x7, .int x2, .int 1, .null, .null]) (st := []) (w := w) rfl h6).trans <|
    (runs_stps (q' := (97, [.ref 34, .null, .int x2, .int x3, .int x4, .int x5, .int x6, .int x7, .int x2, .int 1, .int 1, .null], [.int 1], w)) 4 rfl).trans <|
    (runs_if_f (a := 174) (b := 100) (L := [.ref 34, .null, .int x2, .int x3, .int x4, .int x5, .int x6, .int x7, .int x2, .int 1, .int 1, .null]) (st := []) (w := w) rfl h7).trans <|
    (runs_stps (q' := (102, [.ref 34, .null, .int x2, .int x3, .int x4, .int x5, .int x6, .int x7, .int x2, .int 1, .int 1, .null], [.int 1], w)) 1 rfl).trans <|
    (runs_if_t (a := 124) (b := 105) (L := [.ref 34, .null, .int x2, .int x3, .int x4, .int x5, .int x6, .int x7, .int x2, .int 1, .int 1, .null]) (st := []) (w := w) rfl h8).trans <|
    (runs_stps (q' := (128, [.ref 34, .null, .int x2, .int x3, .int x4, .int x5, .int x6, .null, .null, .null, .null, .null], [.int (x6 - x6 / 2 * 2)], w)) 3 rfl).trans <|
    (runs_if_t (a := 131) (b := 151) (L := [.ref 34, .null, .int x2, .int x3, .int x4, .int x5, .int x6, .null, .null, .null, .null, .null]) (st := []) (w := w) rfl h9).trans <|
    (runs_stps (q' := (137, [.ref 34, .null, .int x2, .int x3, .int x4, .int x5, .int x6, .null, .null, .null, .null, .null], [.int x6, .ref 52], w)) 3 rfl).trans <|
    (runs_ck (q' := (138, [.ref 34, .null, .int x2, .int x3, .int x4, .int x5, .int x6, .null, .null, .null, .null, .null], [.int (w.1 52 x6.toNatClampNeg)], w)) rfl h10).trans <|
    (runs_stps (q' := (140, [.ref 34, .null, .int x2, .int x3, .int x4, .int x5, .int x6, .null, .null, .null, .null, .null], [.int (-9), .int (w.1 52 x6.toNatClampNeg)], w)) 1 rfl).trans <|
    (runs_if_t (a := 143) (b := 147) (L := [.ref 34, .null, .int x2, .int x3, .int x4, .int x5, .int x6, .null, .null, .null, .null, .null]) (st := []) (w := w) rfl h11).trans <|
    (runs_stps (q' := (168, [.ref 34, .null, .int x2, .int x3, .int x4, .int x5, .int (x6 + (-1)), .int 0, .null, .null, .null, .null], [.int 0, .int (x6 + (-1)), .ref 34], w)) 7 rfl).trans <|
    (runs_callV (rv := none) (w' := w1) rfl rfl rfl rfl h12).trans <|
    (runs_stps (q' := (38, [.ref 34, .null, .int x2, .int x3, .int x4, .int x5, .int (x6 + (-1)), .int 0, .null, .null, .null, .null], [], w1)) 2 rfl).trans <|
    rfl
theorem p_X9_played_38FFFFFFF_L38 {ex : Ex} {v1 : Value} {x2 : Int32} {x3 : Int32} {x4 : Int32} {x5 : Int32} {x6 : Int32} {x7 : Int32} {v8 : Value} {v9 : Value} {v10 : Value} {v11 : Value} {r1 : Int32} {w1 : Wd} {w2 : Wd} {w : Wd} (h1 : ¬ x6 < 0) (h2 : (x6 - x6 / 2 * 2) = 0) (h3 : x6 = x4) (h4 : (1 : Int32) = 0) (h5 : vp_in x6 4) (h6 : (w.1 51 x6.toNatClampNeg) = 7) (h7 : ¬ (1 : Int32) = 0) (h8 : ¬ (1 : Int32) = 0) (h9 : vp_in x4 5) (h10 : ex 156 [.ref 34, .int (w.1 50 x4.toNatClampNeg)] w = some (some (.int r1), w1)) (h11 : ex 188 [.ref 34, .int (x6 + (-1)), .int ((r1 >>> (x5 &&& 31)) &&& 1)] w1 = some (none, w2)) : runs (T_X9_played ex) (38, [.ref 34, v1, .int x2, .int x3, .int x4, .int x5, .int x6, .int x7, v8, v9, v10, v11], [], w) = runs (T_X9_played ex) (38, [.ref 34, .null, .int x2, .int x3, .int x4, .int x5, .int (x6 + (-1)), .int ((r1 >>> (x5 &&& 31)) &&& 1), .null, .null, .null, .null], [], w2) := 
    (runs_stps (q' := (40, [.ref 34, .null, .int x2, .int x3, .int x4, .int x5, .int x6, .int x7, .null, .null, .null, .null], [.int x6], w)) 1 rfl).trans <|
    (runs_if_f (a := 288) (b := 43) (L := [.ref 34, .null, .int x2, .int x3, .int x4, .int x5, .int x6, .int x7, .null, .null, .null, .null]) (st := []) (w := w) rfl h1).trans <|
    (runs_stps (q' := (47, [.ref 34, .null, .int x2, .int x3, .int x4, .int x5, .int x6, .int x7, .null, .null, .null, .null], [.int (x6 - x6 / 2 * 2)], w)) 3 rfl).trans <|
    (runs_if_t (a := 50) (b := 54) (L := [.ref 34, .null, .int x2, .int x3, .int x4, .int x5, .int x6, .int x7, .null, .null, .null, .null]) (st := []) (w := w) rfl h2).trans <|
    (runs_stps (q' := (61, [.ref 34, .null, .int x2, .int x3, .int x4, .int x5, .int x6, .int x7, .int x2, .null, .null, .null], [.int x4, .int x6], w)) 5 rfl).trans <|
    (runs_if_t (a := 64) (b := 68) (L := [.ref 34, .null, .int x2, .int x3, .int x4, .int x5, .int x6, .int x7, .int x2, .null, .null, .null]) (st := []) (w := w) rfl h3).trans <|
    (runs_stps (q' := (73, [.ref 34, .null, .int x2, .int x3, .int x4, .int x5, .int x6, .int x7, .int x2, .int 1, .null, .null], [.int 1], w)) 4 rfl).trans <|
    (runs_if_t (a := 76) (b := 88) (L := [.ref 34, .null, .int x2, .int x3, .int x4, .int x5, .int x6, .int x7, .int x2, .int 1, .null, .null]) (st := []) (w := w) rfl h4).trans <|
    (runs_stps (q' := (82, [.ref 34, .null, .int x2, .int x3, .int x4, .int x5, .int x6, .int x7, .int x2, .int 1, .null, .null], [.int x6, .ref 51], w)) 3 rfl).trans <|
    (runs_ck (q' := (83, [.ref 34, .null, .int x2, .int x3, .int x4, .int x5, .int x6, .int x7, .int x2, .int 1, .null, .null], [.int (w.1 51 x6.toNatClampNeg)], w)) rfl h5).trans <|
    (runs_stps (q' := (85, [.ref 34, .null, .int x2, .int x3, .int x4, .int x5, .int x6, .int x7, .int x2, .int 1, .null, .null], [.int 7, .int (w.1 51 x6.toNatClampNeg)], w)) 1 rfl).trans <|
    (runs_if_t (a := 88) (b := 92) (L := [.ref 34, .null, .int x2, .int x3, .int x4, .int x5, .int x6, .int x7, .int x2, .int 1, .null, .null]) (st := []) (w := w) rfl h6).trans <|
    (runs_stps (q' := (97, [.ref 34, .null, .int x2, .int x3, .int x4, .int x5, .int x6, .int x7, .int x2, .int 1, .int 1, .null], [.int 1], w)) 4 rfl).trans <|
    (runs_if_f (a := 174) (b := 100) (L := [.ref 34, .null, .int x2, .int x3, .int x4, .int x5, .int x6, .int x7, .int x2, .int 1, .int 1, .null]) (st := []) (w := w) rfl h7).trans <|
    (runs_stps (q' := (102, [.ref 34, .null, .int x2, .int x3, .int x4, .int x5, .int x6, .int x7, .int x2, .int 1, .int 1, .null], [.int 1], w)) 1 rfl).trans <|
    (runs_if_f (a := 124) (b := 105) (L := [.ref 34, .null, .int x2, .int x3, .int x4, .int x5, .int x6, .int x7, .int x2, .int 1, .int 1, .null]) (st := []) (w := w) rfl h8).trans <|
    (runs_stps (q' := (112, [.ref 34, .null, .int x2, .int x3, .int x4, .int x5, .int x6, .int x7, .int x2, .int 1, .int 1, .null], [.int x4, .ref 50, .ref 34], w)) 4 rfl).trans <|
    (runs_ck (q' := (113, [.ref 34, .null, .int x2, .int x3, .int x4, .int x5, .int x6, .int x7, .int x2, .int 1, .int 1, .null], [.int (w.1 50 x4.toNatClampNeg), .ref 34], w)) rfl h9).trans <|
    (runs_callV (rv := some (.int r1)) (w' := w1) rfl rfl rfl rfl h10).trans <|
    (runs_stps (q' := (168, [.ref 34, .null, .int x2, .int x3, .int x4, .int x5, .int (x6 + (-1)), .int ((r1 >>> (x5 &&& 31)) &&& 1), .null, .null, .null, .null], [.int ((r1 >>> (x5 &&& 31)) &&& 1), .int (x6 + (-1)), .ref 34], w1)) 10 rfl).trans <|
    (runs_callV (rv := none) (w' := w2) rfl rfl rfl rfl h11).trans <|
    (runs_stps (q' := (38, [.ref 34, .null, .int x2, .int x3, .int x4, .int x5, .int (x6 + (-1)), .int ((r1 >>> (x5 &&& 31)) &&& 1), .null, .null, .null, .null], [], w2)) 2 rfl).trans <|
    rfl
theorem p_X9_broom_0T_R {ex : Ex} {x1 : Int32} {x2 : Int32} {x3 : Int32} {x4 : Int32} {x5 : Int32} {x6 : Int32} {r1 : Int32} {w1 : Wd} {w : Wd} (h1 : ex 152 [.ref 34, .int x1] (updI w 34 0 0) = some (some (.int r1), w1)) (h2 : r1 = 0) : runs (T_X9_broom ex) (0, [.ref 34, .int x1, .int x2, .int x3, .int x4, .int x5, .int x6, .null], [], w) = some (some (.int (-1)), w1) := 
    (runs_stps (q' := (7, [.ref 34, .int x1, .int x2, .int x3, .int x4, .int x5, .int x6, .null], [.int x1, .ref 34], updI w 34 0 0)) 5 rfl).trans <|
    (runs_callV (rv := some (.int r1)) (w' := w1) rfl rfl rfl rfl h1).trans <|
    (runs_if_t (a := 65) (b := 13) (L := [.ref 34, .int x1, .int x2, .int x3, .int x4, .int x5, .int x6, .null]) (st := []) (w := w1) rfl h2).trans <|
    (runs_stps (q' := (66, [.null, .null, .null, .null, .null, .null, .null, .null], [.int (-1)], w1)) 1 rfl).trans <|
    runs_ret rfl
theorem p_X9_broom_0FT_R {ex : Ex} {x1 : Int32} {x2 : Int32} {x3 : Int32} {x4 : Int32} {x5 : Int32} {x6 : Int32} {r1 : Int32} {w1 : Wd} {r2 : Int32} {w2 : Wd} {w : Wd} (h1 : ex 152 [.ref 34, .int x1] (updI w 34 0 0) = some (some (.int r1), w1)) (h2 : ¬ r1 = 0) (h3 : ex 153 [.ref 34, .int x2] w1 = some (some (.int r2), w2)) (h4 : r2 = 0) : runs (T_X9_broom ex) (0, [.ref 34, .int x1, .int x2, .int x3, .int x4, .int x5, .int x6, .null], [], w) = some (some (.int (-1)), w2) := 
    (runs_stps (q' := (7, [.ref 34, .int x1, .int x2, .int x3, .int x4, .int x5, .int x6, .null], [.int x1, .ref 34], updI w 34 0 0)) 5 rfl).trans <|
    (runs_callV (rv := some (.int r1)) (w' := w1) rfl rfl rfl rfl h1).trans <|
    (runs_if_f (a := 65) (b := 13) (L := [.ref 34, .int x1, .int x2, .int x3, .int x4, .int x5, .int x6, .null]) (st := []) (w := w1) rfl h2).trans <|
    (runs_stps (q' := (15, [.ref 34, .int x1, .int x2, .int x3, .int x4, .int x5, .int x6, .null], [.int x2, .ref 34], w1)) 2 rfl).trans <|
    (runs_callV (rv := some (.int r2)) (w' := w2) rfl rfl rfl rfl h3).trans <|
    (runs_if_t (a := 65) (b := 21) (L := [.ref 34, .int x1, .int x2, .int x3, .int x4, .int x5, .int x6, .null]) (st := []) (w := w2) rfl h4).trans <|
    (runs_stps (q' := (66, [.null, .null, .null, .null, .null, .null, .null, .null], [.int (-1)], w2)) 1 rfl).trans <|
    runs_ret rfl
theorem p_X9_broom_0FFT_R {ex : Ex} {x1 : Int32} {x2 : Int32} {x3 : Int32} {x4 : Int32} {x5 : Int32} {x6 : Int32} {r1 : Int32} {w1 : Wd} {r2 : Int32} {w2 : Wd} {r3 : Int32} {w3 : Wd} {w : Wd} (h1 : ex 152 [.ref 34, .int x1] (updI w 34 0 0) = some (some (.int r1), w1)) (h2 : ¬ r1 = 0) (h3 : ex 153 [.ref 34, .int x2] w1 = some (some (.int r2), w2)) (h4 : ¬ r2 = 0) (h5 : ex 153 [.ref 34, .int x3] w2 = some (some (.int r3), w3)) (h6 : r3 = 0) : runs (T_X9_broom ex) (0, [.ref 34, .int x1, .int x2, .int x3, .int x4, .int x5, .int x6, .null], [], w) = some (some (.int (-1)), w3) := 
    (runs_stps (q' := (7, [.ref 34, .int x1, .int x2, .int x3, .int x4, .int x5, .int x6, .null], [.int x1, .ref 34], updI w 34 0 0)) 5 rfl).trans <|
    (runs_callV (rv := some (.int r1)) (w' := w1) rfl rfl rfl rfl h1).trans <|
    (runs_if_f (a := 65) (b := 13) (L := [.ref 34, .int x1, .int x2, .int x3, .int x4, .int x5, .int x6, .null]) (st := []) (w := w1) rfl h2).trans <|
    (runs_stps (q' := (15, [.ref 34, .int x1, .int x2, .int x3, .int x4, .int x5, .int x6, .null], [.int x2, .ref 34], w1)) 2 rfl).trans <|
    (runs_callV (rv := some (.int r2)) (w' := w2) rfl rfl rfl rfl h3).trans <|
    (runs_if_f (a := 65) (b := 21) (L := [.ref 34, .int x1, .int x2, .int x3, .int x4, .int x5, .int x6, .null]) (st := []) (w := w2) rfl h4).trans <|
    (runs_stps (q' := (23, [.ref 34, .int x1, .int x2, .int x3, .int x4, .int x5, .int x6, .null], [.int x3, .ref 34], w2)) 2 rfl).trans <|
    (runs_callV (rv := some (.int r3)) (w' := w3) rfl rfl rfl rfl h5).trans <|
    (runs_if_t (a := 65) (b := 29) (L := [.ref 34, .int x1, .int x2, .int x3, .int x4, .int x5, .int x6, .null]) (st := []) (w := w3) rfl h6).trans <|
    (runs_stps (q' := (66, [.null, .null, .null, .null, .null, .null, .null, .null], [.int (-1)], w3)) 1 rfl).trans <|
    runs_ret rfl
theorem p_X9_broom_0FFFT_R {ex : Ex} {x1 : Int32} {x2 : Int32} {x3 : Int32} {x4 : Int32} {x5 : Int32} {x6 : Int32} {r1 : Int32} {w1 : Wd} {r2 : Int32} {w2 : Wd} {r3 : Int32} {w3 : Wd} {w : Wd} (h1 : ex 152 [.ref 34, .int x1] (updI w 34 0 0) = some (some (.int r1), w1)) (h2 : ¬ r1 = 0) (h3 : ex 153 [.ref 34, .int x2] w1 = some (some (.int r2), w2)) (h4 : ¬ r2 = 0) (h5 : ex 153 [.ref 34, .int x3] w2 = some (some (.int r3), w3)) (h6 : ¬ r3 = 0) (h7 : x2 = x3) : runs (T_X9_broom ex) (0, [.ref 34, .int x1, .int x2, .int x3, .int x4, .int x5, .int x6, .null], [], w) = some (some (.int (-1)), w3) := 
    (runs_stps (q' := (7, [.ref 34, .int x1, .int x2, .int x3, .int x4, .int x5, .int x6, .null], [.int x1, .ref 34], updI w 34 0 0)) 5 rfl).trans <|
    (runs_callV (rv := some (.int r1)) (w' := w1) rfl rfl rfl rfl h1).trans <|
    (runs_if_f (a := 65) (b := 13) (L := [.ref 34, .int x1, .int x2, .int x3, .int x4, .int x5, .int x6, .null]) (st := []) (w := w1) rfl h2).trans <|
    (runs_stps (q' := (15, [.ref 34, .int x1, .int x2, .int x3, .int x4, .int x5, .int x6, .null], [.int x2, .ref 34], w1)) 2 rfl).trans <|
    (runs_callV (rv := some (.int r2)) (w' := w2) rfl rfl rfl rfl h3).trans <|
    (runs_if_f (a := 65) (b := 21) (L := [.ref 34, .int x1, .int x2, .int x3, .int x4, .int x5, .int x6, .null]) (st := []) (w := w2) rfl h4).trans <|
    (runs_stps (q' := (23, [.ref 34, .int x1, .int x2, .int x3, .int x4, .int x5, .int x6, .null], [.int x3, .ref 34], w2)) 2 rfl).trans <|
    (runs_callV (rv := some (.int r3)) (w' := w3) rfl rfl rfl rfl h5).trans <|
    (runs_if_f (a := 65) (b := 29) (L := [.ref 34, .int x1, .int x2, .int x3, .int x4, .int x5, .int x6, .null]) (st := []) (w := w3) rfl h6).trans <|
    (runs_stps (q' := (31, [.ref 34, .int x1, .int x2, .int x3, .int x4, .int x5, .int x6, .null], [.int x3, .int x2], w3)) 2 rfl).trans <|
    (runs_if_t (a := 65) (b := 34) (L := [.ref 34, .int x1, .int x2, .int x3, .int x4, .int x5, .int x6, .null]) (st := []) (w := w3) rfl h7).trans <|
    (runs_stps (q' := (66, [.null, .null, .null, .null, .null, .null, .null, .null], [.int (-1)], w3)) 1 rfl).trans <|
    runs_ret rfl
theorem p_X9_broom_0FFFFT_R {ex : Ex} {x1 : Int32} {x2 : Int32} {x3 : Int32} {x4 : Int32} {x5 : Int32} {x6 : Int32} {r1 : Int32} {w1 : Wd} {r2 : Int32} {w2 : Wd} {r3 : Int32} {w3 : Wd} {r4 : Int32} {w4 : Wd} {w : Wd} (h1 : ex 152 [.ref 34, .int x1] (updI w 34 0 0) = some (some (.int r1), w1)) (h2 : ¬ r1 = 0) (h3 : ex 153 [.ref 34, .int x2] w1 = some (some (.int r2), w2)) (h4 : ¬ r2 = 0) (h5 : ex 153 [.ref 34, .int x3] w2 = some (some (.int r3), w3)) (h6 : ¬ r3 = 0) (h7 : ¬ x2 = x3) (h8 : ex 135 [.int x4, .int 0, .int 4] w3 = some (some (.int r4), w4)) (h9 : r4 = 0) : runs (T_X9_broom ex) (0, [.ref 34, .int x1, .int x2, .int x3, .int x4, .int x5, .int x6, .null], [], w) = some (some (.int (-1)), w4) := 
    (runs_stps (q' := (7, [.ref 34, .int x1, .int x2, .int x3, .int x4, .int x5, .int x6, .null], [.int x1, .ref 34], updI w 34 0 0)) 5 rfl).trans <|
    (runs_callV (rv := some (.int r1)) (w' := w1) rfl rfl rfl rfl h1).trans <|
    (runs_if_f (a := 65) (b := 13) (L := [.ref 34, .int x1, .int x2, .int x3, .int x4, .int x5, .int x6, .null]) (st := []) (w := w1) rfl h2).trans <|
    (runs_stps (q' := (15, [.ref 34, .int x1, .int x2, .int x3, .int x4, .int x5, .int x6, .null], [.int x2, .ref 34], w1)) 2 rfl).trans <|
    (runs_callV (rv := some (.int r2)) (w' := w2) rfl rfl rfl rfl h3).trans <|
    (runs_if_f (a := 65) (b := 21) (L := [.ref 34, .int x1, .int x2, .int x3, .int x4, .int x5, .int x6, .null]) (st := []) (w := w2) rfl h4).trans <|
    (runs_stps (q' := (23, [.ref 34, .int x1, .int x2, .int x3, .int x4, .int x5, .int x6, .null], [.int x3, .ref 34], w2)) 2 rfl).trans <|
    (runs_callV (rv := some (.int r3)) (w' := w3) rfl rfl rfl rfl h5).trans <|
    (runs_if_f (a := 65) (b := 29) (L := [.ref 34, .int x1, .int x2, .int x3, .int x4, .int x5, .int x6, .null]) (st := []) (w := w3) rfl h6).trans <|
    (runs_stps (q' := (31, [.ref 34, .int x1, .int x2, .int x3, .int x4, .int x5, .int x6, .null], [.int x3, .int x2], w3)) 2 rfl).trans <|
    (runs_if_f (a := 65) (b := 34) (L := [.ref 34, .int x1, .int x2, .int x3, .int x4, .int x5, .int x6, .null]) (st := []) (w := w3) rfl h7).trans <|
    (runs_stps (q' := (38, [.ref 34, .int x1, .int x2, .int x3, .int x4, .int x5, .int x6, .null], [.int 4, .int 0, .int x4], w3)) 3 rfl).trans <|
    (runs_callS (rv := some (.int r4)) (w' := w4) rfl rfl rfl h8).trans <|
    (runs_if_t (a := 65) (b := 44) (L := [.ref 34, .int x1, .int x2, .int x3, .int x4, .int x5, .int x6, .null]) (st := []) (w := w4) rfl h9).trans <|
    (runs_stps (q' := (66, [.null, .null, .null, .null, .null, .null, .null, .null], [.int (-1)], w4)) 1 rfl).trans <|
    runs_ret rfl
theorem p_X9_broom_0FFFFFT_R {ex : Ex} {x1 : Int32} {x2 : Int32} {x3 : Int32} {x4 : Int32} {x5 : Int32} {x6 : Int32} {r1 : Int32} {w1 : Wd} {r2 : Int32} {w2 : Wd} {r3 : Int32} {w3 : Wd} {r4 : Int32} {w4 : Wd} {r5 : Int32} {w5 : Wd} {w : Wd} (h1 : ex 152 [.ref 34, .int x1] (updI w 34 0 0) = some (some (.int r1), w1)) (h2 : ¬ r1 = 0) (h3 : ex 153 [.ref 34, .int x2] w1 = some (some (.int r2), w2)) (h4 : ¬ r2 = 0) (h5 : ex 153 [.ref 34, .int x3] w2 = some (some (.int r3), w3)) (h6 : ¬ r3 = 0) (h7 : ¬ x2 = x3) (h8 : ex 135 [.int x4, .int 0, .int 4] w3 = some (some (.int r4), w4)) (h9 : ¬ r4 = 0) (h10 : ex 135 [.int x5, .int 0, .int 9] w4 = some (some (.int r5), w5)) (h11 : r5 = 0) : runs (T_X9_broom ex) (0, [.ref 34, .int x1, .int x2, .int x3, .int x4, .int x5, .int x6, .null], [], w) = some (some (.int (-1)), w5) := 
    (runs_stps (q' := (7, [.ref 34, .int x1, .int x2, .int x3, .int x4, .int x5, .int x6, .null], [.int x1, .ref 34], updI w 34 0 0)) 5 rfl).trans <|
    (runs_callV (rv := some (.int r1)) (w' := w1) rfl rfl rfl rfl h1).trans <|
    (runs_if_f (a := 65) (b := 13) (L := [.ref 34, .int x1, .int x2, .int x3, .int x4, .int x5, .int x6, .null]) (st := []) (w := w1) rfl h2).trans <|
    (runs_stps (q' := (15, [.ref 34, .int x1, .int x2, .int x3, .int x4, .int x5, .int x6, .null], [.int x2, .ref 34], w1)) 2 rfl).trans <|
    (runs_callV (rv := some (.int r2)) (w' := w2) rfl rfl rfl rfl h3).trans <|
    (runs_if_f (a := 65) (b := 21) (L := [.ref 34, .int x1, .int x2, .int x3, .int x4, .int x5, .int x6, .null]) (st := []) (w := w2) rfl h4).trans <|
    (runs_stps (q' := (23, [.ref 34, .int x1, .int x2, .int x3, .int x4, .int x5, .int x6, .null], [.int x3, .ref 34], w2)) 2 rfl).trans <|
    (runs_callV (rv := some (.int r3)) (w' := w3) rfl rfl rfl rfl h5).trans <|
    (runs_if_f (a := 65) (b := 29) (L := [.ref 34, .int x1, .int x2, .int x3, .int x4, .int x5, .int x6, .null]) (st := []) (w := w3) rfl h6).trans <|
    (runs_stps (q' := (31, [.ref 34, .int x1, .int x2, .int x3, .int x4, .int x5, .int x6, .null], [.int x3, .int x2], w3)) 2 rfl).trans <|
    (runs_if_f (a := 65) (b := 34) (L := [.ref 34, .int x1, .int x2, .int x3, .int x4, .int x5, .int x6, .null]) (st := []) (w := w3) rfl h7).trans <|
    (runs_stps (q' := (38, [.ref 34, .int x1, .int x2, .int x3, .int x4, .int x5, .int x6, .null], [.int 4, .int 0, .int x4], w3)) 3 rfl).trans <|
    (runs_callS (rv := some (.int r4)) (w' := w4) rfl rfl rfl h8).trans <|
    (runs_if_f (a := 65) (b := 44) (L := [.ref 34, .int x1, .int x2, .int x3, .int x4, .int x5, .int x6, .null]) (st := []) (w := w4) rfl h9).trans <|
    (runs_stps (q' := (49, [.ref 34, .int x1, .int x2, .int x3, .int x4, .int x5, .int x6, .null], [.int 9, .int 0, .int x5], w4)) 3 rfl).trans <|
    (runs_callS (rv := some (.int r5)) (w' := w5) rfl rfl rfl h10).trans <|
    (runs_if_t (a := 65) (b := 55) (L := [.ref 34, .int x1, .int x2, .int x3, .int x4, .int x5, .int x6, .null]) (st := []) (w := w5) rfl h11).trans <|
    (runs_stps (q' := (66, [.null, .null, .null, .null, .null, .null, .null, .null], [.int (-1)], w5)) 1 rfl).trans <|
    runs_ret rfl
theorem p_X9_broom_0FFFFFFTTT_R {ex : Ex} {x1 : Int32} {x2 : Int32} {x3 : Int32} {x4 : Int32} {x5 : Int32} {x6 : Int32} {r1 : Int32} {w1 : Wd} {r2 : Int32} {w2 : Wd} {r3 : Int32} {w3 : Wd} {r4 : Int32} {w4 : Wd} {r5 : Int32} {w5 : Wd} {r6 : Int32} {w6 : Wd} {r7 : Int32} {w7 : Wd} {w : Wd} (h1 : ex 152 [.ref 34, .int x1] (updI w 34 0 0) = some (some (.int r1), w1)) (h2 : ¬ r1 = 0) (h3 : ex 153 [.ref 34, .int x2] w1 = some (some (.int r2), w2)) (h4 : ¬ r2 = 0) (h5 : ex 153 [.ref 34, .int x3] w2 = some (some (.int r3), w3)) (h6 : ¬ r3 = 0) (h7 : ¬ x2 = x3) (h8 : ex 135 [.int x4, .int 0, .int 4] w3 = some (some (.int r4), w4)) (h9 : ¬ r4 = 0) (h10 : ex 135 [.int x5, .int 0, .int 9] w4 = some (some (.int r5), w5)) (h11 : ¬ r5 = 0) (h12 : ex 135 [.int x6, .int 0, .int 1] w5 = some (some (.int r6), w6)) (h13 : ¬ r6 = 0) (h14 : ex 189 [.ref 34, .int x1, .int x2, .int x3, .int x4, .int x5] w6 = some (some (.int r7), w7)) (h15 : ¬ x6 = 0) (h16 : ¬ x4 = 0) : runs (T_X9_broom ex) (0, [.ref 34, .int x1, .int x2, .int x3, .int x4, .int x5, .int x6, .null], [], w) = some (some (.int r7), w7) := 
    (runs_stps (q' := (7, [.ref 34, .int x1, .int x2, .int x3, .int x4, .int x5, .int x6, .null], [.int x1, .ref 34], updI w 34 0 0)) 5 rfl).trans <|
    (runs_callV (rv := some (.int r1)) (w' := w1) rfl rfl rfl rfl h1).trans <|
    (runs_if_f (a := 65) (b := 13) (L := [.ref 34, .int x1, .int x2, .int x3, .int x4, .int x5, .int x6, .null]) (st := []) (w := w1) rfl h2).trans <|
    (runs_stps (q' := (15, [.ref 34, .int x1, .int x2, .int x3, .int x4, .int x5, .int x6, .null], [.int x2, .ref 34], w1)) 2 rfl).trans <|
    (runs_callV (rv := some (.int r2)) (w' := w2) rfl rfl rfl rfl h3).trans <|
    (runs_if_f (a := 65) (b := 21) (L := [.ref 34, .int x1, .int x2, .int x3, .int x4, .int x5, .int x6, .null]) (st := []) (w := w2) rfl h4).trans <|
    (runs_stps (q' := (23, [.ref 34, .int x1, .int x2, .int x3, .int x4, .int x5, .int x6, .null], [.int x3, .ref 34], w2)) 2 rfl).trans <|
    (runs_callV (rv := some (.int r3)) (w' := w3) rfl rfl rfl rfl h5).trans <|
    (runs_if_f (a := 65) (b := 29) (L := [.ref 34, .int x1, .int x2, .int x3, .int x4, .int x5, .int x6, .null]) (st := []) (w := w3) rfl h6).trans <|
    (runs_stps (q' := (31, [.ref 34, .int x1, .int x2, .int x3, .int x4, .int x5, .int x6, .null], [.int x3, .int x2], w3)) 2 rfl).trans <|
    (runs_if_f (a := 65) (b := 34) (L := [.ref 34, .int x1, .int x2, .int x3, .int x4, .int x5, .int x6, .null]) (st := []) (w := w3) rfl h7).trans <|
    (runs_stps (q' := (38, [.ref 34, .int x1, .int x2, .int x3, .int x4, .int x5, .int x6, .null], [.int 4, .int 0, .int x4], w3)) 3 rfl).trans <|
    (runs_callS (rv := some (.int r4)) (w' := w4) rfl rfl rfl h8).trans <|
    (runs_if_f (a := 65) (b := 44) (L := [.ref 34, .int x1, .int x2, .int x3, .int x4, .int x5, .int x6, .null]) (st := []) (w := w4) rfl h9).trans <|
    (runs_stps (q' := (49, [.ref 34, .int x1, .int x2, .int x3, .int x4, .int x5, .int x6, .null], [.int 9, .int 0, .int x5], w4)) 3 rfl).trans <|
    (runs_callS (rv := some (.int r5)) (w' := w5) rfl rfl rfl h10).trans <|
    (runs_if_f (a := 65) (b := 55) (L := [.ref 34, .int x1, .int x2, .int x3, .int x4, .int x5, .int x6, .null]) (st := []) (w := w5) rfl h11).trans <|
    (runs_stps (q' := (59, [.ref 34, .int x1, .int x2, .int x3, .int x4, .int x5, .int x6, .null], [.int 1, .int 0, .int x6], w5)) 3 rfl).trans <|
    (runs_callS (rv := some (.int r6)) (w' := w6) rfl rfl rfl h12).trans <|
    (runs_if_f (a := 65) (b := 67) (L := [.ref 34, .int x1, .int x2, .int x3, .int x4, .int x5, .int x6, .null]) (st := []) (w := w6) rfl h13).trans <|
    (runs_stps (q' := (75, [.ref 34, .int x1, .int x2, .int x3, .int x4, .int x5, .int x6, .null], [.int x5, .int x4, .int x3, .int x2, .int x1, .ref 34], w6)) 6 rfl).trans <|
    (runs_callV (rv := some (.int r7)) (w' := w7) rfl rfl rfl rfl h14).trans <|
    (runs_stps (q' := (82, [.ref 34, .int x1, .int x2, .int x3, .int x4, .int x5, .int x6, .int r7], [.int x6], w7)) 2 rfl).trans <|
    (runs_if_f (a := 85) (b := 100) (L := [.ref 34, .int x1, .int x2, .int x3, .int x4, .int x5, .int x6, .int r7]) (st := []) (w := w7) rfl h15).trans <|
    (runs_stps (q' := (102, [.null, .null, .null, .null, .int x4, .null, .null, .int r7], [.int x4], w7)) 1 rfl).trans <|
    (runs_if_f (a := 105) (b := 110) (L := [.null, .null, .null, .null, .int x4, .null, .null, .int r7]) (st := []) (w := w7) rfl h16).trans <|
    (runs_stps (q' := (112, [.null, .null, .null, .null, .null, .null, .null, .int r7], [.int r7], w7)) 1 rfl).trans <|
    runs_ret rfl
theorem p_X9_broom_0FFFFFFTTF_R {ex : Ex} {x1 : Int32} {x2 : Int32} {x3 : Int32} {x4 : Int32} {x5 : Int32} {x6 : Int32} {r1 : Int32} {w1 : Wd} {r2 : Int32} {w2 : Wd} {r3 : Int32} {w3 : Wd} {r4 : Int32} {w4 : Wd} {r5 : Int32} {w5 : Wd} {r6 : Int32} {w6 : Wd} {r7 : Int32} {w7 : Wd} {w : Wd} (h1 : ex 152 [.ref 34, .int x1] (updI w 34 0 0) = some (some (.int r1), w1)) (h2 : ¬ r1 = 0) (h3 : ex 153 [.ref 34, .int x2] w1 = some (some (.int r2), w2)) (h4 : ¬ r2 = 0) (h5 : ex 153 [.ref 34, .int x3] w2 = some (some (.int r3), w3)) (h6 : ¬ r3 = 0) (h7 : ¬ x2 = x3) (h8 : ex 135 [.int x4, .int 0, .int 4] w3 = some (some (.int r4), w4)) (h9 : ¬ r4 = 0) (h10 : ex 135 [.int x5, .int 0, .int 9] w4 = some (some (.int r5), w5)) (h11 : ¬ r5 = 0) (h12 : ex 135 [.int x6, .int 0, .int 1] w5 = some (some (.int r6), w6)) (h13 : ¬ r6 = 0) (h14 : ex 189 [.ref 34, .int x1, .int x2, .int x3, .int x4, .int x5] w6 = some (some (.int r7), w7)) (h15 : ¬ x6 = 0) (h16 : x4 = 0) : runs (T_X9_broom ex) (0, [.ref 34, .int x1, .int x2, .int x3, .int x4, .int x5, .int x6, .null], [], w) = some (some (.int (-9)), w7) := 
    (runs_stps (q' := (7, [.ref 34, .int x1, .int x2, .int x3, .int x4, .int x5, .int x6, .null], [.int x1, .ref 34], updI w 34 0 0)) 5 rfl).trans <|
    (runs_callV (rv := some (.int r1)) (w' := w1) rfl rfl rfl rfl h1).trans <|
    (runs_if_f (a := 65) (b := 13) (L := [.ref 34, .int x1, .int x2, .int x3, .int x4, .int x5, .int x6, .null]) (st := []) (w := w1) rfl h2).trans <|
    (runs_stps (q' := (15, [.ref 34, .int x1, .int x2, .int x3, .int x4, .int x5, .int x6, .null], [.int x2, .ref 34], w1)) 2 rfl).trans <|
    (runs_callV (rv := some (.int r2)) (w' := w2) rfl rfl rfl rfl h3).trans <|
    (runs_if_f (a := 65) (b := 21) (L := [.ref 34, .int x1, .int x2, .int x3, .int x4, .int x5, .int x6, .null]) (st := []) (w := w2) rfl h4).trans <|
    (runs_stps (q' := (23, [.ref 34, .int x1, .int x2, .int x3, .int x4, .int x5, .int x6, .null], [.int x3, .ref 34], w2)) 2 rfl).trans <|
    (runs_callV (rv := some (.int r3)) (w' := w3) rfl rfl rfl rfl h5).trans <|
    (runs_if_f (a := 65) (b := 29) (L := [.ref 34, .int x1, .int x2, .int x3, .int x4, .int x5, .int x6, .null]) (st := []) (w := w3) rfl h6).trans <|
    (runs_stps (q' := (31, [.ref 34, .int x1, .int x2, .int x3, .int x4, .int x5, .int x6, .null], [.int x3, .int x2], w3)) 2 rfl).trans <|
    (runs_if_f (a := 65) (b := 34) (L := [.ref 34, .int x1, .int x2, .int x3, .int x4, .int x5, .int x6, .null]) (st := []) (w := w3) rfl h7).trans <|
    (runs_stps (q' := (38, [.ref 34, .int x1, .int x2, .int x3, .int x4, .int x5, .int x6, .null], [.int 4, .int 0, .int x4], w3)) 3 rfl).trans <|
    (runs_callS (rv := some (.int r4)) (w' := w4) rfl rfl rfl h8).trans <|
    (runs_if_f (a := 65) (b := 44) (L := [.ref 34, .int x1, .int x2, .int x3, .int x4, .int x5, .int x6, .null]) (st := []) (w := w4) rfl h9).trans <|
    (runs_stps (q' := (49, [.ref 34, .int x1, .int x2, .int x3, .int x4, .int x5, .int x6, .null], [.int 9, .int 0, .int x5], w4)) 3 rfl).trans <|
    (runs_callS (rv := some (.int r5)) (w' := w5) rfl rfl rfl h10).trans <|
    (runs_if_f (a := 65) (b := 55) (L := [.ref 34, .int x1, .int x2, .int x3, .int x4, .int x5, .int x6, .null]) (st := []) (w := w5) rfl h11).trans <|
    (runs_stps (q' := (59, [.ref 34, .int x1, .int x2, .int x3, .int x4, .int x5, .int x6, .null], [.int 1, .int 0, .int x6], w5)) 3 rfl).trans <|
    (runs_callS (rv := some (.int r6)) (w' := w6) rfl rfl rfl h12).trans <|
    (runs_if_f (a := 65) (b := 67) (L := [.ref 34, .int x1, .int x2, .int x3, .int x4, .int x5, .int x6, .null]) (st := []) (w := w6) rfl h13).trans <|
    (runs_stps (q' := (75, [.ref 34, .int x1, .int x2, .int x3, .int x4, .int x5, .int x6, .null], [.int x5, .int x4, .int x3, .int x2, .int x1, .ref 34], w6)) 6 rfl).trans <|
    (runs_callV (rv := some (.int r7)) (w' := w7) rfl rfl rfl rfl h14).trans <|
    (runs_stps (q' := (82, [.ref 34, .int x1, .int x2, .int x3, .int x4, .int x5, .int x6, .int r7], [.int x6], w7)) 2 rfl).trans <|
    (runs_if_f (a := 85) (b := 100) (L := [.ref 34, .int x1, .int x2, .int x3, .int x4, .int x5, .int x6, .int r7]) (st := []) (w := w7) rfl h15).trans <|
    (runs_stps (q' := (102, [.null, .null, .null, .null, .int x4, .null, .null, .int r7], [.int x4], w7)) 1 rfl).trans <|
    (runs_if_t (a := 105) (b := 110) (L := [.null, .null, .null, .null, .int x4, .null, .null, .int r7]) (st := []) (w := w7) rfl h16).trans <|
    (runs_stps (q' := (112, [.null, .null, .null, .null, .int x4, .null, .null, .int r7], [.int (-9)], w7)) 2 rfl).trans <|
    runs_ret rfl
theorem p_X9_broom_0FFFFFFTFT_R {ex : Ex} {x1 : Int32} {x2 : Int32} {x3 : Int32} {x4 : Int32} {x5 : Int32} {x6 : Int32} {r1 : Int32} {w1 : Wd} {r2 : Int32} {w2 : Wd} {r3 : Int32} {w3 : Wd} {r4 : Int32} {w4 : Wd} {r5 : Int32} {w5 : Wd} {r6 : Int32} {w6 : Wd} {r7 : Int32} {w7 : Wd} {w : Wd} (h1 : ex 152 [.ref 34, .int x1] (updI w 34 0 0) = some (some (.int r1), w1)) (h2 : ¬ r1 = 0) (h3 : ex 153 [.ref 34, .int x2] w1 = some (some (.int r2), w2)) (h4 : ¬ r2 = 0) (h5 : ex 153 [.ref 34, .int x3] w2 = some (some (.int r3), w3)) (h6 : ¬ r3 = 0) (h7 : ¬ x2 = x3) (h8 : ex 135 [.int x4, .int 0, .int 4] w3 = some (some (.int r4), w4)) (h9 : ¬ r4 = 0) (h10 : ex 135 [.int x5, .int 0, .int 9] w4 = some (some (.int r5), w5)) (h11 : ¬ r5 = 0) (h12 : ex 135 [.int x6, .int 0, .int 1] w5 = some (some (.int r6), w6)) (h13 : ¬ r6 = 0) (h14 : ex 189 [.ref 34, .int x1, .int x2, .int x3, .int x4, .int x5] w6 = some (some (.int r7), w7)) (h15 : x6 = 0) (h16 : ¬ r7 = (-9)) : runs (T_X9_broom ex) (0, [.ref 34, .int x1, .int x2, .int x3, .int x4, .int x5, .int x6, .null], [], w) = some (some (.int 1), w7) := 
    (runs_stps (q' := (7, [.ref 34, .int x1, .int x2, .int x3, .int x4, .int x5, .int x6, .null], [.int x1, .ref 34], updI w 34 0 0)) 5 rfl).trans <|
    (runs_callV (rv := some (.int r1)) (w' := w1) rfl rfl rfl rfl h1).trans <|
    (runs_if_f (a := 65) (b := 13) (L := [.ref 34, .int x1, .int x2, .int x3, .int x4, .int x5, .int x6, .null]) (st := []) (w := w1) rfl h2).trans <|
    (runs_stps (q' := (15, [.ref 34, .int x1, .int x2, .int x3, .int x4, .int x5, .int x6, .null], [.int x2, .ref 34], w1)) 2 rfl).trans <|
    (runs_callV (rv := some (.int r2)) (w' := w2) rfl rfl rfl rfl h3).trans <|
    (runs_if_f (a := 65) (b := 21) (L := [.ref 34, .int x1, .int x2, .int x3, .int x4, .int x5, .int x6, .null]) (st := []) (w := w2) rfl h4).trans <|
    (runs_stps (q' := (23, [.ref 34, .int x1, .int x2, .int x3, .int x4, .int x5, .int x6, .null], [.int x3, .ref 34], w2)) 2 rfl).trans <|
    (runs_callV (rv := some (.int r3)) (w' := w3) rfl rfl rfl rfl h5).trans <|
    (runs_if_f (a := 65) (b := 29) (L := [.ref 34, .int x1, .int x2, .int x3, .int x4, .int x5, .int x6, .null]) (st := []) (w := w3) rfl h6).trans <|
    (runs_stps (q' := (31, [.ref 34, .int x1, .int x2, .int x3, .int x4, .int x5, .int x6, .null], [.int x3, .int x2], w3)) 2 rfl).trans <|
    (runs_if_f (a := 65) (b := 34) (L := [.ref 34, .int x1, .int x2, .int x3, .int x4, .int x5, .int x6, .null]) (st := []) (w := w3) rfl h7).trans <|
    (runs_stps (q' := (38, [.ref 34, .int x1, .int x2, .int x3, .int x4, .int x5, .int x6, .null], [.int 4, .int 0, .int x4], w3)) 3 rfl).trans <|
    (runs_callS (rv := some (.int r4)) (w' := w4) rfl rfl rfl h8).trans <|
    (runs_if_f (a := 65) (b := 44) (L := [.ref 34, .int x1, .int x2, .int x3, .int x4, .int x5, .int x6, .null]) (st := []) (w := w4) rfl h9).trans <|
    (runs_stps (q' := (49, [.ref 34, .int x1, .int x2, .int x3, .int x4, .int x5, .int x6, .null], [.int 9, .int 0, .int x5], w4)) 3 rfl).trans <|
    (runs_callS (rv := some (.int r5)) (w' := w5) rfl rfl rfl h10).trans <|
    (runs_if_f (a := 65) (b := 55) (L := [.ref 34, .int x1, .int x2, .int x3, .int x4, .int x5, .int x6, .null]) (st := []) (w := w5) rfl h11).trans <|
    (runs_stps (q' := (59, [.ref 34, .int x1, .int x2, .int x3, .int x4, .int x5, .int x6, .null], [.int 1, .int 0, .int x6], w5)) 3 rfl).trans <|
    (runs_callS (rv := some (.int r6)) (w' := w6) rfl rfl rfl h12).trans <|
    (runs_if_f (a := 65) (b := 67) (L := [.ref 34, .int x1, .int x2, .int x3, .int x4, .int x5, .int x6, .null]) (st := []) (w := w6) rfl h13).trans <|
    (runs_stps (q' := (75, [.ref 34, .int x1, .int x2, .int x3, .int x4, .int x5, .int x6, .null], [.int x5, .int x4, .int x3, .int x2, .int x1, .ref 34], w6)) 6 rfl).trans <|
    (runs_callV (rv := some (.int r7)) (w' := w7) rfl rfl rfl rfl h14).trans <|
    (runs_stps (q' := (82, [.ref 34, .int x1, .int x2, .int x3, .int x4, .int x5, .int x6, .int r7], [.int x6], w7)) 2 rfl).trans <|
    (runs_if_t (a := 85) (b := 100) (L := [.ref 34, .int x1, .int x2, .int x3, .int x4, .int x5, .int x6, .int r7]) (st := []) (w := w7) rfl h15).trans <|
    (runs_stps (q' := (89, [.ref 34, .int x1, .int x2, .int x3, .int x4, .int x5, .int x6, .int r7], [.int (-9), .int r7], w7)) 2 rfl).trans <|
    (runs_if_f (a := 92) (b := 96) (L := [.ref 34, .int x1, .int x2, .int x3, .int x4, .int x5, .int x6, .int r7]) (st := []) (w := w7) rfl h16).trans <|
    (runs_stps (q' := (112, [.null, .null, .null, .null, .null, .null, .null, .null], [.int 1], w7)) 2 rfl).trans <|
    runs_ret rfl
theorem p_X9_broom_0FFFFFFTFF_R {ex : Ex} {x1 : Int32} {x2 : Int32} {x3 : Int32} {x4 : Int32} {x5 : Int32} {x6 : Int32} {r1 : Int32} {w1 : Wd} {r2 : Int32} {w2 : Wd} {r3 : Int32} {w3 : Wd} {r4 : Int32} {w4 : Wd} {r5 : Int32} {w5 : Wd} {r6 : Int32} {w6 : Wd} {r7 : Int32} {w7 : Wd} {w : Wd} (h1 : ex 152 [.ref 34, .int x1] (updI w 34 0 0) = some (some (.int r1), w1)) (h2 : ¬ r1 = 0) (h3 : ex 153 [.ref 34, .int x2] w1 = some (some (.int r2), w2)) (h4 : ¬ r2 = 0) (h5 : ex 153 [.ref 34, .int x3] w2 = some (some (.int r3), w3)) (h6 : ¬ r3 = 0) (h7 : ¬ x2 = x3) (h8 : ex 135 [.int x4, .int 0, .int 4] w3 = some (some (.int r4), w4)) (h9 : ¬ r4 = 0) (h10 : ex 135 [.int x5, .int 0, .int 9] w4 = some (some (.int r5), w5)) (h11 : ¬ r5 = 0) (h12 : ex 135 [.int x6, .int 0, .int 1] w5 = some (some (.int r6), w6)) (h13 : ¬ r6 = 0) (h14 : ex 189 [.ref 34, .int x1, .int x2, .int x3, .int x4, .int x5] w6 = some (some (.int r7), w7)) (h15 : x6 = 0) (h16 : r7 = (-9)) : runs (T_X9_broom ex) (0, [.ref 34, .int x1, .int x2, .int x3, .int x4, .int x5, .int x6, .null], [], w) = some (some (.int 0), w7) := 
    (runs_stps (q' := (7, [.ref 34, .int x1, .int x2, .int x3, .int x4, .int x5, .int x6, .null], [.int x1, .ref 34], updI w 34 0 0)) 5 rfl).trans <|
    (runs_callV (rv := some (.int r1)) (w' := w1) rfl rfl rfl rfl h1).trans <|
    (runs_if_f (a := 65) (b := 13) (L := [.ref 34, .int x1, .int x2, .int x3, .int x4, .int x5, .int x6, .null]) (st := []) (w := w1) rfl h2).trans <|
    (runs_stps (q' := (15, [.ref 34, .int x1, .int x2, .int x3, .int x4, .int x5, .int x6, .null], [.int x2, .ref 34], w1)) 2 rfl).trans <|
    (runs_callV (rv := some (.int r2)) (w' := w2) rfl rfl rfl rfl h3).trans <|
    (runs_if_f (a := 65) (b := 21) (L := [.ref 34, .int x1, .int x2, .int x3, .int x4, .int x5, .int x6, .null]) (st := []) (w := w2) rfl h4).trans <|
    (runs_stps (q' := (23, [.ref 34, .int x1, .int x2, .int x3, .int x4, .int x5, .int x6, .null], [.int x3, .ref 34], w2)) 2 rfl).trans <|
    (runs_callV (rv := some (.int r3)) (w' := w3) rfl rfl rfl rfl h5).trans <|
    (runs_if_f (a := 65) (b := 29) (L := [.ref 34, .int x1, .int x2, .int x3, .int x4, .int x5, .int x6, .null]) (st := []) (w := w3) rfl h6).trans <|
    (runs_stps (q' := (31, [.ref 34, .int x1, .int x2, .int x3, .int x4, .int x5, .int x6, .null], [.int x3, .int x2], w3)) 2 rfl).trans <|
    (runs_if_f (a := 65) (b := 34) (L := [.ref 34, .int x1, .int x2, .int x3, .int x4, .int x5, .int x6, .null]) (st := []) (w := w3) rfl h7).trans <|
    (runs_stps (q' := (38, [.ref 34, .int x1, .int x2, .int x3, .int x4, .int x5, .int x6, .null], [.int 4, .int 0, .int x4], w3)) 3 rfl).trans <|
    (runs_callS (rv := some (.int r4)) (w' := w4) rfl rfl rfl h8).trans <|
    (runs_if_f (a := 65) (b := 44) (L := [.ref 34, .int x1, .int x2, .int x3, .int x4, .int x5, .int x6, .null]) (st := []) (w := w4) rfl h9).trans <|
    (runs_stps (q' := (49, [.ref 34, .int x1, .int x2, .int x3, .int x4, .int x5, .int x6, .null], [.int 9, .int 0, .int x5], w4)) 3 rfl).trans <|
    (runs_callS (rv := some (.int r5)) (w' := w5) rfl rfl rfl h10).trans <|
    (runs_if_f (a := 65) (b := 55) (L := [.ref 34, .int x1, .int x2, .int x3, .int x4, .int x5, .int x6, .null]) (st := []) (w := w5) rfl h11).trans <|
    (runs_stps (q' := (59, [.ref 34, .int x1, .int x2, .int x3, .int x4, .int x5, .int x6, .null], [.int 1, .int 0, .int x6], w5)) 3 rfl).trans <|
    (runs_callS (rv := some (.int r6)) (w' := w6) rfl rfl rfl h12).trans <|
    (runs_if_f (a := 65) (b := 67) (L := [.ref 34, .int x1, .int x2, .int x3, .int x4, .int x5, .int x6, .null]) (st := []) (w := w6) rfl h13).trans <|
    (runs_stps (q' := (75, [.ref 34, .int x1, .int x2, .int x3, .int x4, .int x5, .int x6, .null], [.int x5, .int x4, .int x3, .int x2, .int x1, .ref 34], w6)) 6 rfl).trans <|
    (runs_callV (rv := some (.int r7)) (w' := w7) rfl rfl rfl rfl h14).trans <|
    (runs_stps (q' := (82, [.ref 34, .int x1, .int x2, .int x3, .int x4, .int x5, .int x6, .int r7], [.int x6], w7)) 2 rfl).trans <|
    (runs_if_t (a := 85) (b := 100) (L := [.ref 34, .int x1, .int x2, .int x3, .int x4, .int x5, .int x6, .int r7]) (st := []) (w := w7) rfl h15).trans <|
    (runs_stps (q' := (89, [.ref 34, .int x1, .int x2, .int x3, .int x4, .int x5, .int x6, .int r7], [.int (-9), .int r7], w7)) 2 rfl).trans <|
    (runs_if_t (a := 92) (b := 96) (L := [.ref 34, .int x1, .int x2, .int x3, .int x4, .int x5, .int x6, .int r7]) (st := []) (w := w7) rfl h16).trans <|
    (runs_stps (q' := (112, [.ref 34, .int x1, .int x2, .int x3, .int x4, .int x5, .int x6, .int r7], [.int 0], w7)) 2 rfl).trans <|
    runs_ret rfl
theorem p_X9_broom_0FFFFFFF_R {ex : Ex} {x1 : Int32} {x2 : Int32} {x3 : Int32} {x4 : Int32} {x5 : Int32} {x6 : Int32} {r1 : Int32} {w1 : Wd} {r2 : Int32} {w2 : Wd} {r3 : Int32} {w3 : Wd} {r4 : Int32} {w4 : Wd} {r5 : Int32} {w5 : Wd} {r6 : Int32} {w6 : Wd} {w : Wd} (h1 : ex 152 [.ref 34, .int x1] (updI w 34 0 0) = some (some (.int r1), w1)) (h2 : ¬ r1 = 0) (h3 : ex 153 [.ref 34, .int x2] w1 = some (some (.int r2), w2)) (h4 : ¬ r2 = 0) (h5 : ex 153 [.ref 34, .int x3] w2 = some (some (.int r3), w3)) (h6 : ¬ r3 = 0) (h7 : ¬ x2 = x3) (h8 : ex 135 [.int x4, .int 0, .int 4] w3 = some (some (.int r4), w4)) (h9 : ¬ r4 = 0) (h10 : ex 135 [.int x5, .int 0, .int 9] w4 = some (some (.int r5), w5)) (h11 : ¬ r5 = 0) (h12 : ex 135 [.int x6, .int 0, .int 1] w5 = some (some (.int r6), w6)) (h13 : r6 = 0) : runs (T_X9_broom ex) (0, [.ref 34, .int x1, .int x2, .int x3, .int x4, .int x5, .int x6, .null], [], w) = some (some (.int (-1)), w6) := 
    (runs_stps (q' := (7, [.ref 34, .int x1, .int x2, .int x3, .int x4, .int x5, .int x6, .null], [.int x1, .ref 34], updI w 34 0 0)) 5 rfl).trans <|
    (runs_callV (rv := some (.int r1)) (w' := w1) rfl rfl rfl rfl h1).trans <|
    (runs_if_f (a := 65) (b := 13) (L := [.ref 34, .int x1, .int x2, .int x3, .int x4, .int x5, .int x6, .null]) (st := []) (w := w1) rfl h2).trans <|
    (runs_stps (q' := (15, [.ref 34, .int x1, .int x2, .int x3, .int x4, .int x5, .int x6, .null], [.int x2, .ref 34], w1)) 2 rfl).trans <|
    (runs_callV (rv := some (.int r2)) (w' := w2) rfl rfl rfl rfl h3).trans <|
    (runs_if_f (a := 65) (b := 21) (L := [.ref 34, .int x1, .int x2, .int x3, .int x4, .int x5, .int x6, .null]) (st := []) (w := w2) rfl h4).trans <|
    (runs_stps (q' := (23, [.ref 34, .int x1, .int x2, .int x3, .int x4, .int x5, .int x6, .null], [.int x3, .ref 34], w2)) 2 rfl).trans <|
    (runs_callV (rv := some (.int r3)) (w' := w3) rfl rfl rfl rfl h5).trans <|
    (runs_if_f (a := 65) (b := 29) (L := [.ref 34, .int x1, .int x2, .int x3, .int x4, .int x5, .int x6, .null]) (st := []) (w := w3) rfl h6).trans <|
    (runs_stps (q' := (31, [.ref 34, .int x1, .int x2, .int x3, .int x4, .int x5, .int x6, .null], [.int x3, .int x2], w3)) 2 rfl).trans <|
    (runs_if_f (a := 65) (b := 34) (L := [.ref 34, .int x1, .int x2, .int x3, .int x4, .int x5, .int x6, .null]) (st := []) (w := w3) rfl h7).trans <|
    (runs_stps (q' := (38, [.ref 34, .int x1, .int x2, .int x3, .int x4, .int x5, .int x6, .null], [.int 4, .int 0, .int x4], w3)) 3 rfl).trans <|
    (runs_callS (rv := some (.int r4)) (w' := w4) rfl rfl rfl h8).trans <|
    (runs_if_f (a := 65) (b := 44) (L := [.ref 34, .int x1, .int x2, .int x3, .int x4, .int x5, .int x6, .null]) (st := []) (w := w4) rfl h9).trans <|
    (runs_stps (q' := (49, [.ref 34, .int x1, .int x2, .int x3, .int x4, .int x5, .int x6, .null], [.int 9, .int 0, .int x5], w4)) 3 rfl).trans <|
    (runs_callS (rv := some (.int r5)) (w' := w5) rfl rfl rfl h10).trans <|
    (runs_if_f (a := 65) (b := 55) (L := [.ref 34, .int x1, .int x2, .int x3, .int x4, .int x5, .int x6, .null]) (st := []) (w := w5) rfl h11).trans <|
    (runs_stps (q' := (59, [.ref 34, .int x1, .int x2, .int x3, .int x4, .int x5, .int x6, .null], [.int 1, .int 0, .int x6], w5)) 3 rfl).trans <|
    (runs_callS (rv := some (.int r6)) (w' := w6) rfl rfl rfl h12).trans <|
    (runs_if_t (a := 65) (b := 67) (L := [.ref 34, .int x1, .int x2, .int x3, .int x4, .int x5, .int x6, .null]) (st := []) (w := w6) rfl h13).trans <|
    (runs_stps (q' := (66, [.null, .null, .null, .null, .null, .null, .null, .null], [.int (-1)], w6)) 1 rfl).trans <|
    runs_ret rfl
theorem p_X9_gcd_0_L6 {ex : Ex} {x0 : Int64} {x2 : Int64} {w : Wd} : runs (T_X9_gcd ex) (0, [.long x0, .null, .long x2, .null, .null, .null, .null, .null, .null, .null], [], w) = runs (T_X9_gcd ex) (6, [.long x0, .null, .long x2, .null, .long x0, .null, .long x2, .null, .null, .null], [], w) := 
    (runs_stps (q' := (6, [.long x0, .null, .long x2, .null, .long x0, .null, .long x2, .null, .null, .null], [], w)) 4 rfl).trans <|
    rfl
theorem p_X9_gcd_6T_R {ex : Ex} {v0 : Value} {v2 : Value} {x4 : Int64} {x6 : Int64} {v8 : Value} {w : Wd} (h1 : (lg_cmp x6 0) = 0) : runs (T_X9_gcd ex) (6, [v0, .null, v2, .null, .long x4, .null, .long x6, .null, v8, .null], [], w) = some (some (.long x4), w) := 
    (runs_stps (q' := (10, [.null, .null, .null, .null, .long x4, .null, .long x6, .null, .null, .null], [.int (lg_cmp x6 0)], w)) 3 rfl).trans <|
    (runs_if_t (a := 31) (b := 13) (L := [.null, .null, .null, .null, .long x4, .null, .long x6, .null, .null, .null]) (st := []) (w := w) rfl h1).trans <|
    (runs_stps (q' := (33, [.null, .null, .null, .null, .long x4, .null, .null, .null, .null, .null], [.long x4], w)) 1 rfl).trans <|
    runs_ret rfl
theorem p_X9_gcd_6F_L6 {ex : Ex} {v0 : Value} {v2 : Value} {x4 : Int64} {x6 : Int64} {v8 : Value} {w : Wd} (h1 : ¬ (lg_cmp x6 0) = 0) (h2 : ¬ x6 = 0) : runs (T_X9_gcd ex) (6, [v0, .null, v2, .null, .long x4, .null, .long x6, .null, v8, .null], [], w) = runs (T_X9_gcd ex) (6, [.null, .null, .null, .null, .long x6, .null, .long (x4 - x4 / x6 * x6), .null, .long (x4 - x4 / x6 * x6), .null], [], w) := 
    (runs_stps (q' := (10, [.null, .null, .null, .null, .long x4, .null, .long x6, .null, .null, .null], [.int (lg_cmp x6 0)], w)) 3 rfl).trans <|
    (runs_if_f (a := 31) (b := 13) (L := [.null, .null, .null, .null, .long x4, .null, .long x6, .null, .null, .null]) (st := []) (w := w) rfl h1).trans <|
    (runs_stps (q' := (17, [.null, .null, .null, .null, .long x4, .null, .long x6, .null, .null, .null], [.long x6, .long x4], w)) 2 rfl).trans <|
    (runs_dvL rfl h2).trans <|
    (runs_stps (q' := (6, [.null, .null, .null, .null, .long x6, .null, .long (x4 - x4 / x6 * x6), .null, .long (x4 - x4 / x6 * x6), .null], [], w)) 6 rfl).trans <|
    rfl
theorem p_X9_odds_0T_R {ex : Ex} {x1 : Int32} {x2 : Int32} {x3 : Int32} {r1 : Int32} {w1 : Wd} {w : Wd} (h1 : ex 135 [.int x1, .int 0, .int 9] (updI w 34 0 0) = some (some (.int r1), w1)) (h2 : r1 = 0) : runs (T_X9_odds ex) (0, [.ref 34, .int x1, .int x2, .int x3, .null, .null, .null, .null, .null, .null], [], w) = some (some (.long (-1)), w1) := 
    (runs_stps (q' := (9, [.ref 34, .int x1, .int x2, .int x3, .null, .null, .null, .null, .null, .null], [.int 9, .int 0, .int x1], updI w 34 0 0)) 6 rfl).trans <|
    (runs_callS (rv := some (.int r1)) (w' := w1) rfl rfl rfl h1).trans <|
    (runs_if_t (a := 34) (b := 15) (L := [.ref 34, .int x1, .int x2, .int x3, .null, .null, .null, .null, .null, .null]) (st := []) (w := w1) rfl h2).trans <|
    (runs_stps (q' := (37, [.null, .null, .null, .null, .null, .null, .null, .null, .null, .null], [.long (-1)], w1)) 1 rfl).trans <|
    runs_ret rfl
theorem p_X9_odds_0FT_R {ex : Ex} {x1 : Int32} {x2 : Int32} {x3 : Int32} {r1 : Int32} {w1 : Wd} {r2 : Int32} {w2 : Wd} {w : Wd} (h1 : ex 135 [.int x1, .int 0, .int 9] (updI w 34 0 0) = some (some (.int r1), w1)) (h2 : ¬ r1 = 0) (h3 : ex 135 [.int x2, .int 0, .int 10] w1 = some (some (.int r2), w2)) (h4 : r2 = 0) : runs (T_X9_odds ex) (0, [.ref 34, .int x1, .int x2, .int x3, .null, .null, .null, .null, .null, .null], [], w) = some (some (.long (-1)), w2) := 
    (runs_stps (q' := (9, [.ref 34, .int x1, .int x2, .int x3, .null, .null, .null, .null, .null, .null], [.int 9, .int 0, .int x1], updI w 34 0 0)) 6 rfl).trans <|
    (runs_callS (rv := some (.int r1)) (w' := w1) rfl rfl rfl h1).trans <|
    (runs_if_f (a := 34) (b := 15) (L := [.ref 34, .int x1, .int x2, .int x3, .null, .null, .null, .null, .null, .null]) (st := []) (w := w1) rfl h2).trans <|
    (runs_stps (q' := (19, [.ref 34, .int x1, .int x2, .int x3, .null, .null, .null, .null, .null, .null], [.int 10, .int 0, .int x2], w1)) 3 rfl).trans <|
    (runs_callS (rv := some (.int r2)) (w' := w2) rfl rfl rfl h3).trans <|
    (runs_if_t (a := 34) (b := 25) (L := [.ref 34, .int x1, .int x2, .int x3, .null, .null, .null, .null, .null, .null]) (st := []) (w := w2) rfl h4).trans <|
    (runs_stps (q' := (37, [.null, .null, .null, .null, .null, .null, .null, .null, .null, .null], [.long (-1)], w2)) 1 rfl).trans <|
    runs_ret rfl
theorem p_X9_odds_0FFT_L47 {ex : Ex} {x1 : Int32} {x2 : Int32} {x3 : Int32} {r1 : Int32} {w1 : Wd} {r2 : Int32} {w2 : Wd} {r3 : Int32} {w3 : Wd} {w : Wd} (h1 : ex 135 [.int x1, .int 0, .int 9] (updI w 34 0 0) = some (some (.int r1), w1)) (h2 : ¬ r1 = 0) (h3 : ex 135 [.int x2, .int 0, .int 10] w1 = some (some (.int r2), w2)) (h4 : ¬ r2 = 0) (h5 : ex 135 [.int x3, .int 0, .int 1] w2 = some (some (.int r3), w3)) (h6 : ¬ r3 = 0) : runs (T_X9_odds ex) (0, [.ref 34, .int x1, .int x2, .int x3, .null, .null, .null, .null, .null, .null], [], w) = runs (T_X9_odds ex) (47, [.null, .int x1, .int x2, .int x3, .long 1, .null, .long 1, .null, .int 0, .null], [], w3) := 
    (runs_stps (q' := (9, [.ref 34, .int x1, .int x2, .int x3, .null, .null, .null, .null, .null, .null], [.int 9, .int 0, .int x1], updI w 34 0 0)) 6 rfl).trans <|
    (runs_callS (rv := some (.int r1)) (w' := w1) rfl rfl rfl h1).trans <|
    (runs_if_f (a := 34) (b := 15) (L := [.ref 34, .int x1, .int x2, .int x3, .null, .null, .null, .null, .null, .null]) (st := []) (w := w1) rfl h2).trans <|
    (runs_stps (q' := (19, [.ref 34, .int x1, .int x2, .int x3, .null, .null, .null, .null, .null, .null], [.int 10, .int 0, .int x2], w1)) 3 rfl).trans <|
    (runs_callS (rv := some (.int r2)) (w' := w2) rfl rfl rfl h3).trans <|
    (runs_if_f (a := 34) (b := 25) (L := [.ref 34, .int x1, .int x2, .int x3, .null, .null, .null, .null, .null, .null]) (st := []) (w := w2) rfl h4).trans <|
    (runs_stps (q' := (28, [.ref 34, .int x1, .int x2, .int x3, .null, .null, .null, .null, .null, .null], [.int 1, .int 0, .int x3], w2)) 3 rfl).trans <|
    (runs_callS (rv := some (.int r3)) (w' := w3) rfl rfl rfl h5).trans <|
    (runs_if_f (a := 34) (b := 38) (L := [.ref 34, .int x1, .int x2, .int x3, .null, .null, .null, .null, .null, .null]) (st := []) (w := w3) rfl h6).trans <|
    (runs_stps (q' := (47, [.null, .int x1, .int x2, .int x3, .long 1, .null, .long 1, .null, .int 0, .null], [], w3)) 6 rfl).trans <|
    rfl
theorem p_X9_odds_0FFF_R {ex : Ex} {x1 : Int32} {x2 : Int32} {x3 : Int32} {r1 : Int32} {w1 : Wd} {r2 : Int32} {w2 : Wd} {r3 : Int32} {w3 : Wd} {w : Wd} (h1 : ex 135 [.int x1, .int 0, .int 9] (updI w 34 0 0) = some (some (.int r1), w1)) (h2 : ¬ r1 = 0) (h3 : ex 135 [.int x2, .int 0, .int 10] w1 = some (some (.int r2), w2)) (h4 : ¬ r2 = 0) (h5 : ex 135 [.int x3, .int 0, .int 1] w2 = some (some (.int r3), w3)) (h6 : r3 = 0) : runs (T_X9_odds ex) (0, [.ref 34, .int x1, .int x2, .int x3, .null, .null, .null, .null, .null, .null], [], w) = some (some (.long (-1)), w3) := 
    (runs_stps (q' := (9, [.ref 34, .int x1, .int x2, .int x3, .null, .null, .null, .null, .null, .null], [.int 9, .int 0, .int x1], updI w 34 0 0)) 6 rfl).trans <|
    (runs_callS (rv := some (.int r1)) (w' := w1) rfl rfl rfl h1).trans <|
    (runs_if_f (a := 34) (b := 15) (L := [.ref 34, .int x1, .int x2, .int x3, .null, .null, .null, .null, .null, .null]) (st := []) (w := w1) rfl h2).trans <|
    (runs_stps (q' := (19, [.ref 34, .int x1, .int x2, .int x3, .null, .null, .null, .null, .null, .null], [.int 10, .int 0, .int x2], w1)) 3 rfl).trans <|
    (runs_callS (rv := some (.int r2)) (w' := w2) rfl rfl rfl h3).trans <|
    (runs_if_f (a := 34) (b := 25) (L := [.ref 34, .int x1, .int x2, .int x3, .null, .null, .null, .null, .null, .null]) (st := []) (w := w2) rfl h4).trans <|
    (runs_stps (q' := (28, [.ref 34, .int x1, .int x2, .int x3, .null, .null, .null, .null, .null, .null], [.int 1, .int 0, .int x3], w2)) 3 rfl).trans <|
    (runs_callS (rv := some (.int r3)) (w' := w3) rfl rfl rfl h5).trans <|
    (runs_if_t (a := 34) (b := 38) (L := [.ref 34, .int x1, .int x2, .int x3, .null, .null, .null, .null, .null, .null]) (st := []) (w := w3) rfl h6).trans <|
    (runs_stps (q' := (37, [.null, .null, .null, .null, .null, .null, .null, .null, .null, .null], [.long (-1)], w3)) 1 rfl).trans <|
    runs_ret rfl
theorem p_X9_odds_47TT_R {ex : Ex} {v0 : Value} {x1 : Int32} {x2 : Int32} {x3 : Int32} {x4 : Int64} {x6 : Int64} {x8 : Int32} {r1 : Int64} {w1 : Wd} {w : Wd} (h1 : x1 ≤ x8) (h2 : ex 191 [.long x4, .long x6] w = some (some (.long r1), w1)) (h3 : ¬ x3 = 0) (h4 : ¬ r1 = 0) : runs (T_X9_odds ex) (47, [v0, .int x1, .int x2, .int x3, .long x4, .null, .long x6, .null, .int x8, .null], [], w) = some (some (.long (x6 / r1)), w1) := 
    (runs_stps (q' := (50, [.null, .int x1, .int x2, .int x3, .long x4, .null, .long x6, .null, .int x8, .null], [.int x1, .int x8], w)) 2 rfl).trans <|
    (runs_if_t (a := 77) (b := 53) (L := [.null, .int x1, .int x2, .int x3, .long x4, .null, .long x6, .null, .int x8, .null]) (st := []) (w := w) rfl h1).trans <|
    (runs_stps (q' := (81, [.null, .null, .null, .int x3, .long x4, .null, .long x6, .null, .null, .null], [.long x6, .long x4], w)) 2 rfl).trans <|
    (runs_callS (rv := some (.long r1)) (w' := w1) rfl rfl rfl h2).trans <|
    (runs_stps (q' := (87, [.null, .null, .null, .int x3, .long x4, .null, .long x6, .null, .long r1, .null], [.int x3], w1)) 2 rfl).trans <|
    (runs_if_f (a := 90) (b := 98) (L := [.null, .null, .null, .int x3, .long x4, .null, .long x6, .null, .long r1, .null]) (st := []) (w := w1) rfl h3).trans <|
    (runs_stps (q' := (102, [.null, .null, .null, .null, .null, .null, .long x6, .null, .long r1, .null], [.long r1, .long x6], w1)) 2 rfl).trans <|
    (runs_dvL rfl h4).trans <|
    runs_ret rfl
theorem p_X9_odds_47TF_R {ex : Ex} {v0 : Value} {x1 : Int32} {x2 : Int32} {x3 : Int32} {x4 : Int64} {x6 : Int64} {x8 : Int32} {r1 : Int64} {w1 : Wd} {w : Wd} (h1 : x1 ≤ x8) (h2 : ex 191 [.long x4, .long x6] w = some (some (.long r1), w1)) (h3 : x3 = 0) (h4 : ¬ r1 = 0) : runs (T_X9_odds ex) (47, [v0, .int x1, .int x2, .int x3, .long x4, .null, .long x6, .null, .int x8, .null], [], w) = some (some (.long (x4 / r1)), w1) := 
    (runs_stps (q' := (50, [.null, .int x1, .int x2, .int x3, .long x4, .null, .long x6, .null, .int x8, .null], [.int x1, .int x8], w)) 2 rfl).trans <|
    (runs_if_t (a := 77) (b := 53) (L := [.null, .int x1, .int x2, .int x3, .long x4, .null, .long x6, .null, .int x8, .null]) (st := []) (w := w) rfl h1).trans <|
    (runs_stps (q' := (81, [.null, .null, .null, .int x3, .long x4, .null, .long x6, .null, .null, .null], [.long x6, .long x4], w)) 2 rfl).trans <|
    (runs_callS (rv := some (.long r1)) (w' := w1) rfl rfl rfl h2).trans <|
    (runs_stps (q' := (87, [.null, .null, .null, .int x3, .long x4, .null, .long x6, .null, .long r1, .null], [.int x3], w1)) 2 rfl).trans <|
    (runs_if_t (a := 90) (b := 98) (L := [.null, .null, .null, .int x3, .long x4, .null, .long x6, .null, .long r1, .null]) (st := []) (w := w1) rfl h3).trans <|
    (runs_stps (q' := (94, [.null, .null, .null, .int x3, .long x4, .null, .long x6, .null, .long r1, .null], [.long r1, .long x4], w1)) 2 rfl).trans <|
    (runs_dvL rfl h4).trans <|
    (runs_stps (q' := (103, [.null, .null, .null, .int x3, .long x4, .null, .long x6, .null, .long r1, .null], [.long (x4 / r1)], w1)) 1 rfl).trans <|
    runs_ret rfl
theorem p_X9_odds_47F_L47 {ex : Ex} {v0 : Value} {x1 : Int32} {x2 : Int32} {x3 : Int32} {x4 : Int64} {x6 : Int64} {x8 : Int32} {w : Wd} (h1 : ¬ x1 ≤ x8) : runs (T_X9_odds ex) (47, [v0, .int x1, .int x2, .int x3, .long x4, .null, .long x6, .null, .int x8, .null], [], w) = runs (T_X9_odds ex) (47, [.null, .int x1, .int x2, .int x3, .long (x4 * ((10 - x2).toInt64)), .null, .long (x6 * 10), .null, .int (x8 + 1), .null], [], w) := 
    (runs_stps (q' := (50, [.null, .int x1, .int x2, .int x3, .long x4, .null, .long x6, .null, .int x8, .null], [.int x1, .int x8], w)) 2 rfl).trans <|
    (runs_if_f (a := 77) (b := 53) (L := [.null, .int x1, .int x2, .int x3, .long x4, .null, .long x6, .null, .int x8, .null]) (st := []) (w := w) rfl h1).trans <|
    (runs_stps (q' := (47, [.null, .int x1, .int x2, .int x3, .long (x4 * ((10 - x2).toInt64)), .null, .long (x6 * 10), .null, .int (x8 + 1), .null], [], w)) 13 rfl).trans <|
    rfl
theorem p_X9_rate_0T_R {ex : Ex} {x1 : Int32} {x2 : Int32} {r1 : Int32} {w1 : Wd} {w : Wd} (h1 : ex 135 [.int x1, .int 0, .int 5] (updI w 34 0 0) = some (some (.int r1), w1)) (h2 : r1 = 0) : runs (T_X9_rate ex) (0, [.ref 34, .int x1, .int x2, .null, .null, .null, .null, .null, .null, .null], [], w) = some (some (.int (-1000000)), w1) := 
    (runs_stps (q' := (8, [.ref 34, .int x1, .int x2, .null, .null, .null, .null, .null, .null, .null], [.int 5, .int 0, .int x1], updI w 34 0 0)) 6 rfl).trans <|
    (runs_callS (rv := some (.int r1)) (w' := w1) rfl rfl rfl h1).trans <|
    (runs_if_t (a := 22) (b := 14) (L := [.ref 34, .int x1, .int x2, .null, .null, .null, .null, .null, .null, .null]) (st := []) (w := w1) rfl h2).trans <|
    (runs_stps (q' := (24, [.null, .null, .null, .null, .null, .null, .null, .null, .null, .null], [.int (-1000000)], w1)) 1 rfl).trans <|
    runs_ret rfl
theorem p_X9_rate_0FT_L71 {ex : Ex} {x1 : Int32} {x2 : Int32} {r1 : Int32} {w1 : Wd} {r2 : Int32} {w2 : Wd} {w : Wd} (h1 : ex 135 [.int x1, .int 0, .int 5] (updI w 34 0 0) = some (some (.int r1), w1)) (h2 : ¬ r1 = 0) (h3 : ex 151 [.ref 34, .int x2] w1 = some (some (.int r2), w2)) (h4 : ¬ r2 = 0) (h5 : vp_in (4 * x2) 40) (h6 : vp_in ((4 * x2) + 2) 40) (h7 : vp_in ((4 * x2) + 3) 40) : runs (T_X9_rate ex) (0, [.ref 34, .int x1, .int x2, .null, .null, .null, .null, .null, .null, .null], [], w) = runs (T_X9_rate ex) (71, [.ref 34, .int x1, .int x2, .int (w2.1 36 ((4 * x2).toNatClampNeg)), .int ((w2.1 36 ((4 * x2).toNatClampNeg)) + (w2.1 36 (((4 * x2) + 2).toNatClampNeg))), .int ((w2.1 36 ((4 * x2).toNatClampNeg)) - (w2.1 36 (((4 * x2) + 3).toNatClampNeg))), .int 0, .int 0, .int 0, .null], [], w2) := 
    (runs_stps (q' := (8, [.ref 34, .int x1, .int x2, .null, .null, .null, .null, .null, .null, .null], [.int 5, .int 0, .int x1], updI w 34 0 0)) 6 rfl).trans <|
    (runs_callS (rv := some (.int r1)) (w' := w1) rfl rfl rfl h1).trans <|
    (runs_if_f (a := 22) (b := 14) (L := [.ref 34, .int x1, .int x2, .null, .null, .null, .null, .null, .null, .null]) (st := []) (w := w1) rfl h2).trans <|
    (runs_stps (q' := (16, [.ref 34, .int x1, .int x2, .null, .null, .null, .null, .null, .null, .null], [.int x2, .ref 34], w1)) 2 rfl).trans <|
    (runs_callV (rv := some (.int r2)) (w' := w2) rfl rfl rfl rfl h3).trans <|
    (runs_if_f (a := 22) (b := 25) (L := [.ref 34, .int x1, .int x2, .null, .null, .null, .null, .null, .null, .null]) (st := []) (w := w2) rfl h4).trans <|
    (runs_stps (q' := (32, [.ref 34, .int x1, .int x2, .null, .null, .null, .null, .null, .null, .null], [.int (4 * x2), .ref 36], w2)) 5 rfl).trans <|
    (runs_ck (q' := (33, [.ref 34, .int x1, .int x2, .null, .null, .null, .null, .null, .null, .null], [.int (w2.1 36 ((4 * x2).toNatClampNeg))], w2)) rfl h5).trans <|
    (runs_stps (q' := (44, [.ref 34, .int x1, .int x2, .int (w2.1 36 ((4 * x2).toNatClampNeg)), .null, .null, .null, .null, .null, .null], [.int ((4 * x2) + 2), .ref 36, .int (w2.1 36 ((4 * x2).toNatClampNeg))], w2)) 9 rfl).trans <|
    (runs_ck (q' := (45, [.ref 34, .int x1, .int x2, .int (w2.1 36 ((4 * x2).toNatClampNeg)), .null, .null, .null, .null, .null, .null], [.int (w2.1 36 (((4 * x2) + 2).toNatClampNeg)), .int (w2.1 36 ((4 * x2).toNatClampNeg))], w2)) rfl h6).trans <|
    (runs_stps (q' := (58, [.ref 34, .int x1, .int x2, .int (w2.1 36 ((4 * x2).toNatClampNeg)), .int ((w2.1 36 ((4 * x2).toNatClampNeg)) + (w2.1 36 (((4 * x2) + 2).toNatClampNeg))), .null, .null, .null, .null, .null], [.int ((4 * x2) + 3), .ref 36, .int (w2.1 36 ((4 * x2).toNatClampNeg))], w2)) 10 rfl).trans <|
    (runs_ck (q' := (59, [.ref 34, .int x1, .int x2, .int (w2.1 36 ((4 * x2).toNatClampNeg)), .int ((w2.1 36 ((4 * x2).toNatClampNeg)) + (w2.1 36 (((4 * x2) + 2).toNatClampNeg))), .null, .null, .null, .null, .null], [.int (w2.1 36 (((4 * x2) + 3).toNatClampNeg)), .int (w2.1 36 ((4 * x2).toNatClampNeg))], w2)) rfl h7).trans <|
    (runs_stps (q' := (71, [.ref 34, .int x1, .int x2, .int (w2.1 36 ((4 * x2).toNatClampNeg)), .int ((w2.1 36 ((4 * x2).toNatClampNeg)) + (w2.1 36 (((4 * x2) + 2).toNatClampNeg))), .int ((w2.1 36 ((4 * x2).toNatClampNeg)) - (w2.1 36 (((4 * x2) + 3).toNatClampNeg))), .int 0, .int 0, .int 0, .null], [], w2)) 8 rfl).trans <|
    rfl
theorem p_X9_rate_0FF_R {ex : Ex} {x1 : Int32} {x2 : Int32} {r1 : Int32} {w1 : Wd} {r2 : Int32} {w2 : Wd} {w : Wd} (h1 : ex 135 [.int x1, .int 0, .int 5] (updI w 34 0 0) = some (some (.int r1), w1)) (h2 : ¬ r1 = 0) (h3 : ex 151 [.ref 34, .int x2] w1 = some (some (.int r2), w2)) (h4 : r2 = 0) : runs (T_X9_rate ex) (0, [.ref 34, .int x1, .int x2, .null, .null, .null, .null, .null, .null, .null], [], w) = some (some (.int (-1000000)), w2) := 
    (runs_stps (q' := (8, [.ref 34, .int x1, .int x2, .null, .null, .null, .null, .null, .null, .null], [.int 5, .int 0, .int x1], updI w 34 0 0)) 6 rfl).trans <|
    (runs_callS (rv := some (.int r1)) (w' := w1) rfl rfl rfl h1).trans <|
    (runs_if_f (a := 22) (b := 14) (L := [.ref 34, .int x1, .int x2, .null, .null, .null, .null, .null, .null, .null]) (st := []) (w := w1) rfl h2).trans <|
    (runs_stps (q' := (16, [.ref 34, .int x1, .int x2, .null, .null, .null, .null, .null, .null, .null], [.int x2, .ref 34], w1)) 2 rfl).trans <|
    (runs_callV (rv := some (.int r2)) (w' := w2) rfl rfl rfl rfl h3).trans <|
    (runs_if_t (a := 22) (b := 25) (L := [.ref 34, .int x1, .int x2, .null, .null, .null, .null, .null, .null, .null]) (st := []) (w := w2) rfl h4).trans <|
    (runs_stps (q' := (24, [.null, .null, .null, .null, .null, .null, .null, .null, .null, .null], [.int (-1000000)], w2)) 1 rfl).trans <|
    runs_ret rfl
theorem p_X9_rate_71T_L109 {ex : Ex} {x1 : Int32} {x2 : Int32} {x3 : Int32} {x4 : Int32} {x5 : Int32} {x6 : Int32} {x7 : Int32} {x8 : Int32} {v9 : Value} {w : Wd} (h1 : (w.1 34 15) ≤ x8) : runs (T_X9_rate ex) (71, [.ref 34, .int x1, .int x2, .int x3, .int x4, .int x5, .int x6, .int x7, .int x8, v9], [], w) = runs (T_X9_rate ex) (109, [.ref 34, .int x1, .int x2, .int x3, .int x4, .int x5, .int x6, .int x7, .int 0, .null], [], w) := 
    (runs_stps (q' := (77, [.ref 34, .int x1, .int x2, .int x3, .int x4, .int x5, .int x6, .int x7, .int x8, .null], [.int (w.1 34 15), .int x8], w)) 3 rfl).trans <|
    (runs_if_t (a := 106) (b := 80) (L := [.ref 34, .int x1, .int x2, .int x3, .int x4, .int x5, .int x6, .int x7, .int x8, .null]) (st := []) (w := w) rfl h1).trans <|
    (runs_stps (q' := (109, [.ref 34, .int x1, .int x2, .int x3, .int x4, .int x5, .int x6, .int x7, .int 0, .null], [], w)) 2 rfl).trans <|
    rfl
theorem p_X9_rate_71FT_L71 {ex : Ex} {x1 : Int32} {x2 : Int32} {x3 : Int32} {x4 : Int32} {x5 : Int32} {x6 : Int32} {x7 : Int32} {x8 : Int32} {v9 : Value} {r1 : Int32} {w1 : Wd} {w : Wd} (h1 : ¬ (w.1 34 15) ≤ x8) (h2 : ex 161 [.ref 34, .int x8, .int x2] w = some (some (.int r1), w1)) (h3 : r1 = 0) : runs (T_X9_rate ex) (71, [.ref 34, .int x1, .int x2, .int x3, .int x4, .int x5, .int x6, .int x7, .int x8, v9], [], w) = runs (T_X9_rate ex) (71, [.ref 34, .int x1, .int x2, .int x3, .int x4, .int x5, .int (x6 + 0), .int x7, .int (x8 + 1), .null], [], w1) := 
    (runs_stps (q' := (77, [.ref 34, .int x1, .int x2, .int x3, .int x4, .int x5, .int x6, .int x7, .int x8, .null], [.int (w.1 34 15), .int x8], w)) 3 rfl).trans <|
    (runs_if_f (a := 106) (b := 80) (L := [.ref 34, .int x1, .int x2, .int x3, .int x4, .int x5, .int x6, .int x7, .int x8, .null]) (st := []) (w := w) rfl h1).trans <|
    (runs_stps (q' := (86, [.ref 34, .int x1, .int x2, .int x3, .int x4, .int x5, .int x6, .int x7, .int x8, .null], [.int x2, .int x8, .ref 34, .int x6], w)) 4 rfl).trans <|
    (runs_callV (rv := some (.int r1)) (w' := w1) rfl rfl rfl rfl h2).trans <|
    (runs_if_t (a := 96) (b := 92) (L := [.ref 34, .int x1, .int x2, .int x3, .int x4, .int x5, .int x6, .int x7, .int x8, .null]) (st := [.int x6]) (w := w1) rfl h3).trans <|
    (runs_stps (q' := (71, [.ref 34, .int x1, .int x2, .int x3, .int x4, .int x5, .int (x6 + 0), .int x7, .int (x8 + 1), .null], [], w1)) 5 rfl).trans <|
    rfl
theorem p_X9_rate_71FF_L71 {ex : Ex} {x1 : Int32} {x2 : Int32} {x3 : Int32} {x4 : Int32} {x5 : Int32} {x6 : Int32} {x7 : Int32} {x8 : Int32} {v9 : Value} {r1 : Int32} {w1 : Wd} {w : Wd} (h1 : ¬ (w.1 34 15) ≤ x8) (h2 : ex 161 [.ref 34, .int x8, .int x2] w = some (some (.int r1), w1)) (h3 : ¬ r1 = 0) : runs (T_X9_rate ex) (71, [.ref 34, .int x1, .int x2, .int x3, .int x4, .int x5, .int x6, .int x7, .int x8, v9], [], w) = runs (T_X9_rate ex) (71, [.ref 34, .int x1, .int x2, .int x3, .int x4, .int x5, .int (x6 + 1), .int x7, .int (x8 + 1), .null], [], w1) := 
    (runs_stps (q' := (77, [.ref 34, .int x1, .int x2, .int x3, .int x4, .int x5, .int x6, .int x7, .int x8, .null], [.int (w.1 34 15), .int x8], w)) 3 rfl).trans <|
    (runs_if_f (a := 106) (b := 80) (L := [.ref 34, .int x1, .int x2, .int x3, .int x4, .int x5, .int x6, .int x7, .int x8, .null]) (st := []) (w := w) rfl h1).trans <|
    (runs_stps (q' := (86, [.ref 34, .int x1, .int x2, .int x3, .int x4, .int x5, .int x6, .int x7, .int x8, .null], [.int x2, .int x8, .ref 34, .int x6], w)) 4 rfl).trans <|
    (runs_callV (rv := some (.int r1)) (w' := w1) rfl rfl rfl rfl h2).trans <|
    (runs_if_f (a := 96) (b := 92) (L := [.ref 34, .int x1, .int x2, .int x3, .int x4, .int x5, .int x6, .int x7, .int x8, .null]) (st := [.int x6]) (w := w1) rfl h3).trans <|
    (runs_stps (q' := (71, [.ref 34, .int x1, .int x2, .int x3, .int x4, .int x5, .int (x6 + 1), .int x7, .int (x8 + 1), .null], [], w1)) 6 rfl).trans <|
    rfl
theorem p_X9_rate_109TTTTTTTTTTT_R {ex : Ex} {x1 : Int32} {x2 : Int32} {x3 : Int32} {x4 : Int32} {x5 : Int32} {x6 : Int32} {x7 : Int32} {x8 : Int32} {v9 : Value} {w : Wd} (h1 : (w.1 34 14) ≤ x8) (h2 : ¬ x1 = 0) (h3 : ¬ x1 = 1) (h4 : ¬ x1 = 2) (h5 : ¬ x1 = 3) (h6 : ¬ x1 = 4) (h7 : ¬ x1 = 0) (h8 : ¬ x1 = 1) (h9 : ¬ x1 = 2) (h10 : ¬ x1 = 3) (h11 : ¬ x1 = 4) : runs (T_X9_rate ex) (109, [.ref 34, .int x1, .int x2, .int x3, .int x4, .int x5, .int x6, .int x7, .int x8, v9], [], w) = some (some (.int (x3 + x7)), updL w 34 1 ((w.2 34 1) + 100001)) := 
    (runs_stps (q' := (115, [.ref 34, .int x1, .int x2, .int x3, .int x4, .int x5, .int x6, .int x7, .int x8, .null], [.int (w.1 34 14), .int x8], w)) 3 rfl).trans <|
    (runs_if_t (a := 169) (b := 118) (L := [.ref 34, .int x1, .int x2, .int x3, .int x4, .int x5, .int x6, .int x7, .int x8, .null]) (st := []) (w := w) rfl h1).trans <|
    (runs_stps (q' := (175, [.ref 34, .int x1, .null, .int x3, .int x4, .int x5, .int x6, .int x7, .null, .null], [.int x1, .long (w.2 34 1), .ref 34], w)) 4 rfl).trans <|
    (runs_if_f (a := 178) (b := 182) (L := [.ref 34, .int x1, .null, .int x3, .int x4, .int x5, .int x6, .int x7, .null, .null]) (st := [.long (w.2 34 1), .ref 34]) (w := w) rfl h2).trans <|
    (runs_stps (q' := (184, [.null, .int x1, .null, .int x3, .int x4, .int x5, .int x6, .int x7, .null, .null], [.int 1, .int x1, .long (w.2 34 1), .ref 34], w)) 2 rfl).trans <|
    (runs_if_f (a := 187) (b := 193) (L := [.null, .int x1, .null, .int x3, .int x4, .int x5, .int x6, .int x7, .null, .null]) (st := [.long (w.2 34 1), .ref 34]) (w := w) rfl h3).trans <|
    (runs_stps (q' := (195, [.null, .int x1, .null, .int x3, .int x4, .int x5, .int x6, .int x7, .null, .null], [.int 2, .int x1, .long (w.2 34 1), .ref 34], w)) 2 rfl).trans <|
    (runs_if_f (a := 198) (b := 204) (L := [.null, .int x1, .null, .int x3, .int x4, .int x5, .int x6, .int x7, .null, .null]) (st := [.long (w.2 34 1), .ref 34]) (w := w) rfl h4).trans <|
    (runs_stps (q' := (206, [.null, .int x1, .null, .int x3, .int x4, .int x5, .int x6, .int x7, .null, .null], [.int 3, .int x1, .long (w.2 34 1), .ref 34], w)) 2 rfl).trans <|
    (runs_if_f (a := 209) (b := 215) (L := [.null, .int x1, .null, .int x3, .int x4, .int x5, .int x6, .int x7, .null, .null]) (st := [.long (w.2 34 1), .ref 34]) (w := w) rfl h5).trans <|
    (runs_stps (q' := (217, [.null, .int x1, .null, .int x3, .int x4, .int x5, .int x6, .int x7, .null, .null], [.int 4, .int x1, .long (w.2 34 1), .ref 34], w)) 2 rfl).trans <|
    (runs_if_f (a := 220) (b := 226) (L := [.null, .int x1, .null, .int x3, .int x4, .int x5, .int x6, .int x7, .null, .null]) (st := [.long (w.2 34 1), .ref 34]) (w := w) rfl h6).trans <|
    (runs_stps (q' := (234, [.null, .int x1, .null, .int x3, .int x4, .int x5, .int x6, .int x7, .null, .null], [.int x1], updL w 34 1 ((w.2 34 1) + 100001))) 4 rfl).trans <|
    (runs_if_f (a := 237) (b := 241) (L := [.null, .int x1, .null, .int x3, .int x4, .int x5, .int x6, .int x7, .null, .null]) (st := []) (w := updL w 34 1 ((w.2 34 1) + 100001)) rfl h7).trans <|
    (runs_stps (q' := (243, [.null, .int x1, .null, .int x3, .int x4, .int x5, .int x6, .int x7, .null, .null], [.int 1, .int x1], updL w 34 1 ((w.2 34 1) + 100001))) 2 rfl).trans <|
    (runs_if_f (a := 246) (b := 251) (L := [.null, .int x1, .null, .int x3, .int x4, .int x5, .int x6, .int x7, .null, .null]) (st := []) (w := updL w 34 1 ((w.2 34 1) + 100001)) rfl h8).trans <|
    (runs_stps (q' := (253, [.null, .int x1, .null, .int x3, .int x4, .int x5, .int x6, .int x7, .null, .null], [.int 2, .int x1], updL w 34 1 ((w.2 34 1) + 100001))) 2 rfl).trans <|
    (runs_if_f (a := 256) (b := 261) (L := [.null, .int x1, .null, .int x3, .int x4, .int x5, .int x6, .int x7, .null, .null]) (st := []) (w := updL w 34 1 ((w.2 34 1) + 100001)) rfl h9).trans <|
    (runs_stps (q' := (263, [.null, .int x1, .null, .int x3, .int x4, .int x5, .int x6, .int x7, .null, .null], [.int 3, .int x1], updL w 34 1 ((w.2 34 1) + 100001))) 2 rfl).trans <|
    (runs_if_f (a := 266) (b := 273) (L := [.null, .int x1, .null, .int x3, .int x4, .int x5, .int x6, .int x7, .null, .null]) (st := []) (w := updL w 34 1 ((w.2 34 1) + 100001)) rfl h10).trans <|
    (runs_stps (q' := (275, [.null, .int x1, .null, .int x3, .null, .int x5, .int x6, .int x7, .null, .null], [.int 4, .int x1], updL w 34 1 ((w.2 34 1) + 100001))) 2 rfl).trans <|
    (runs_if_f (a := 278) (b := 286) (L := [.null, .int x1, .null, .int x3, .null, .int x5, .int x6, .int x7, .null, .null]) (st := []) (w := updL w 34 1 ((w.2 34 1) + 100001)) rfl h11).trans <|
    (runs_stps (q' := (290, [.null, .null, .null, .int x3, .null, .null, .null, .int x7, .null, .null], [.int (x3 + x7)], updL w 34 1 ((w.2 34 1) + 100001))) 3 rfl).trans <|
    runs_ret rfl
theorem p_X9_rate_109TTTTTTTTTTF_R {ex : Ex} {x1 : Int32} {x2 : Int32} {x3 : Int32} {x4 : Int32} {x5 : Int32} {x6 : Int32} {x7 : Int32} {x8 : Int32} {v9 : Value} {w : Wd} (h1 : (w.1 34 14) ≤ x8) (h2 : ¬ x1 = 0) (h3 : ¬ x1 = 1) (h4 : ¬ x1 = 2) (h5 : ¬ x1 = 3) (h6 : ¬ x1 = 4) (h7 : ¬ x1 = 0) (h8 : ¬ x1 = 1) (h9 : ¬ x1 = 2) (h10 : ¬ x1 = 3) (h11 : x1 = 4) : runs (T_X9_rate ex) (109, [.ref 34, .int x1, .int x2, .int x3, .int x4, .int x5, .int x6, .int x7, .int x8, v9], [], w) = some (some (.int (x5 + x6)), updL w 34 1 ((w.2 34 1) + 100001)) := 
    (runs_stps (q' := (115, [.ref 34, .int x1, .int x2, .int x3, .int x4, .int x5, .int x6, .int x7, .int x8, .null], [.int (w.1 34 14), .int x8], w)) 3 rfl).trans <|
    (runs_if_t (a := 169) (b := 118) (L := [.ref 34, .int x1, .int x2, .int x3, .int x4, .int x5, .int x6, .int x7, .int x8, .null]) (st := []) (w := w) rfl h1).trans <|
    (runs_stps (q' := (175, [.ref 34, .int x1, .null, .int x3, .int x4, .int x5, .int x6, .int x7, .null, .null], [.int x1, .long (w.2 34 1), .ref 34], w)) 4 rfl).trans <|
    (runs_if_f (a := 178) (b := 182) (L := [.ref 34, .int x1, .null, .int x3, .int x4, .int x5, .int x6, .int x7, .null, .null]) (st := [.long (w.2 34 1), .ref 34]) (w := w) rfl h2).trans <|
    (runs_stps (q' := (184, [.null, .int x1, .null, .int x3, .int x4, .int x5, .int x6, .int x7, .null, .null], [.int 1, .int x1, .long (w.2 34 1), .ref 34], w)) 2 rfl).trans <|
    (runs_if_f (a := 187) (b := 193) (L := [.null, .int x1, .null, .int x3, .int x4, .int x5, .int x6, .int x7, .null, .null]) (st := [.long (w.2 34 1), .ref 34]) (w := w) rfl h3).trans <|
    (runs_stps (q' := (195, [.null, .int x1, .null, .int x3, .int x4, .int x5, .int x6, .int x7, .null, .null], [.int 2, .int x1, .long (w.2 34 1), .ref 34], w)) 2 rfl).trans <|
    (runs_if_f (a := 198) (b := 204) (L := [.null, .int x1, .null, .int x3, .int x4, .int x5, .int x6, .int x7, .null, .null]) (st := [.long (w.2 34 1), .ref 34]) (w := w) rfl h4).trans <|
    (runs_stps (q' := (206, [.null, .int x1, .null, .int x3, .int x4, .int x5, .int x6, .int x7, .null, .null], [.int 3, .int x1, .long (w.2 34 1), .ref 34], w)) 2 rfl).trans <|
    (runs_if_f (a := 209) (b := 215) (L := [.null, .int x1, .null, .int x3, .int x4, .int x5, .int x6, .int x7, .null, .null]) (st := [.long (w.2 34 1), .ref 34]) (w := w) rfl h5).trans <|
    (runs_stps (q' := (217, [.null, .int x1, .null, .int x3, .int x4, .int x5, .int x6, .int x7, .null, .null], [.int 4, .int x1, .long (w.2 34 1), .ref 34], w)) 2 rfl).trans <|
    (runs_if_f (a := 220) (b := 226) (L := [.null, .int x1, .null, .int x3, .int x4, .int x5, .int x6, .int x7, .null, .null]) (st := [.long (w.2 34 1), .ref 34]) (w := w) rfl h6).trans <|
    (runs_stps (q' := (234, [.null, .int x1, .null, .int x3, .int x4, .int x5, .int x6, .int x7, .null, .null], [.int x1], updL w 34 1 ((w.2 34 1) + 100001))) 4 rfl).trans <|
    (runs_if_f (a := 237) (b := 241) (L := [.null, .int x1, .null, .int x3, .int x4, .int x5, .int x6, .int x7, .null, .null]) (st := []) (w := updL w 34 1 ((w.2 34 1) + 100001)) rfl h7).trans <|
    (runs_stps (q' := (243, [.null, .int x1, .null, .int x3, .int x4, .int x5, .int x6, .int x7, .null, .null], [.int 1, .int x1], updL w 34 1 ((w.2 34 1) + 100001))) 2 rfl).trans <|
    (runs_if_f (a := 246) (b := 251) (L := [.null, .int x1, .null, .int x3, .int x4, .int x5, .int x6, .int x7, .null, .null]) (st := []) (w := updL w 34 1 ((w.2 34 1) + 100001)) rfl h8).trans <|
    (runs_stps (q' := (253, [.null, .int x1, .null, .int x3, .int x4, .int x5, .int x6, .int x7, .null, .null], [.int 2, .int x1], updL w 34 1 ((w.2 34 1) + 100001))) 2 rfl).trans <|
    (runs_if_f (a := 256) (b := 261) (L := [.null, .int x1, .null, .int x3, .int x4, .int x5, .int x6, .int x7, .null, .null]) (st := []) (w := updL w 34 1 ((w.2 34 1) + 100001)) rfl h9).trans <|
    (runs_stps (q' := (263, [.null, .int x1, .null, .int x3, .int x4, .int x5, .int x6, .int x7, .null, .null], [.int 3, .int x1], updL w 34 1 ((w.2 34 1) + 100001))) 2 rfl).trans <|
    (runs_if_f (a := 266) (b := 273) (L := [.null, .int x1, .null, .int x3, .int x4, .int x5, .int x6, .int x7, .null, .null]) (st := []) (w := updL w 34 1 ((w.2 34 1) + 100001)) rfl h10).trans <|
    (runs_stps (q' := (275, [.null, .int x1, .null, .int x3, .null, .int x5, .int x6, .int x7, .null, .null], [.int 4, .int x1], updL w 34 1 ((w.2 34 1) + 100001))) 2 rfl).trans <|
    (runs_if_t (a := 278) (b := 286) (L := [.null, .int x1, .null, .int x3, .null, .int x5, .int x6, .int x7, .null, .null]) (st := []) (w := updL w 34 1 ((w.2 34 1) + 100001)) rfl h11).trans <|
    (runs_stps (q' := (290, [.null, .int x1, .null, .int x3, .null, .int x5, .int x6, .int x7, .null, .null], [.int (x5 + x6)], updL w 34 1 ((w.2 34 1) + 100001))) 4 rfl).trans <|
    runs_ret rfl
theorem p_X9_rate_109TTTTTTTTTF_R {ex : Ex} {x1 : Int32} {x2 : Int32} {x3 : Int32} {x4 : Int32} {x5 : Int32} {x6 : Int32} {x7 : Int32} {x8 : Int32} {v9 : Value} {w : Wd} (h1 : (w.1 34 14) ≤ x8) (h2 : ¬ x1 = 0) (h3 : ¬ x1 = 1) (h4 : ¬ x1 = 2) (h5 : ¬ x1 = 3) (h6 : ¬ x1 = 4) (h7 : ¬ x1 = 0) (h8 : ¬ x1 = 1) (h9 : ¬ x1 = 2) (h10 : x1 = 3) : runs (T_X9_rate ex) (109, [.ref 34, .int x1, .int x2, .int x3, .int x4, .int x5, .int x6, .int x7, .int x8, v9], [], w) = some (some (.int (2 * x4)), updL w 34 1 ((w.2 34 1) + 100001)) := 
    (runs_stps (q' := (115, [.ref 34, .int x1, .int x2, .int x3, .int x4, .int x5, .int x6, .int x7, .int x8, .null], [.int (w.1 34 14), .int x8], w)) 3 rfl).trans <|
    (runs_if_t (a := 169) (b := 118) (L := [.ref 34, .int x1, .int x2, .int x3, .int x4, .int x5, .int x6, .int x7, .int x8, .null]) (st := []) (w := w) rfl h1).trans <|
    (runs_stps (q' := (175, [.ref 34, .int x1, .null, .int x3, .int x4, .int x5, .int x6, .int x7, .null, .null], [.int x1, .long (w.2 34 1), .ref 34], w)) 4 rfl).trans <|
    (runs_if_f (a := 178) (b := 182) (L := [.ref 34, .int x1, .null, .int x3, .int x4, .int x5, .int x6, .int x7, .null, .null]) (st := [.long (w.2 34 1), .ref 34]) (w := w) rfl h2).trans <|
    (runs_stps (q' := (184, [.null, .int x1, .null, .int x3, .int x4, .int x5, .int x6, .int x7, .null, .null], [.int 1, .int x1, .long (w.2 34 1), .ref 34], w)) 2 rfl).trans <|
    (runs_if_f (a := 187) (b := 193) (L := [.null, .int x1, .null, .int x3, .int x4, .int x5, .int x6, .int x7, .null, .null]) (st := [.long (w.2 34 1), .ref 34]) (w := w) rfl h3).trans <|
    (runs_stps (q' := (195, [.null, .int x1, .null, .int x3, .int x4, .int x5, .int x6, .int x7, .null, .null], [.int 2, .int x1, .long (w.2 34 1), .ref 34], w)) 2 rfl).trans <|
    (runs_if_f (a := 198) (b := 204) (L := [.null, .int x1, .null, .int x3, .int x4, .int x5, .int x6, .int x7, .null, .null]) (st := [.long (w.2 34 1), .ref 34]) (w := w) rfl h4).trans <|
    (runs_stps (q' := (206, [.null, .int x1, .null, .int x3, .int x4, .int x5, .int x6, .int x7, .null, .null], [.int 3, .int x1, .long (w.2 34 1), .ref 34], w)) 2 rfl).trans <|
    (runs_if_f (a := 209) (b := 215) (L := [.null, .int x1, .null, .int x3, .int x4, .int x5, .int x6, .int x7, .null, .null]) (st := [.long (w.2 34 1), .ref 34]) (w := w) rfl h5).trans <|
    (runs_stps (q' := (217, [.null, .int x1, .null, .int x3, .int x4, .int x5, .int x6, .int x7, .null, .null], [.int 4, .int x1, .long (w.2 34 1), .ref 34], w)) 2 rfl).trans <|
    (runs_if_f (a := 220) (b := 226) (L := [.null, .int x1, .null, .int x3, .int x4, .int x5, .int x6, .int x7, .null, .null]) (st := [.long (w.2 34 1), .ref 34]) (w := w) rfl h6).trans <|
    (runs_stps (q' := (234, [.null, .int x1, .null, .int x3, .int x4, .int x5, .int x6, .int x7, .null, .null], [.int x1], updL w 34 1 ((w.2 34 1) + 100001))) 4 rfl).trans <|
    (runs_if_f (a := 237) (b := 241) (L := [.null, .int x1, .null, .int x3, .int x4, .int x5, .int x6, .int x7, .null, .null]) (st := []) (w := updL w 34 1 ((w.2 34 1) + 100001)) rfl h7).trans <|
    (runs_stps (q' := (243, [.null, .int x1, .null, .int x3, .int x4, .int x5, .int x6, .int x7, .null, .null], [.int 1, .int x1], updL w 34 1 ((w.2 34 1) + 100001))) 2 rfl).trans <|
    (runs_if_f (a := 246) (b := 251) (L := [.null, .int x1, .null, .int x3, .int x4, .int x5, .int x6, .int x7, .null, .null]) (st := []) (w := updL w 34 1 ((w.2 34 1) + 100001)) rfl h8).trans <|
    (runs_stps (q' := (253, [.null, .int x1, .null, .int x3, .int x4, .int x5, .int x6, .int x7, .null, .null], [.int 2, .int x1], updL w 34 1 ((w.2 34 1) + 100001))) 2 rfl).trans <|
    (runs_if_f (a := 256) (b := 261) (L := [.null, .int x1, .null, .int x3, .int x4, .int x5, .int x6, .int x7, .null, .null]) (st := []) (w := updL w 34 1 ((w.2 34 1) + 100001)) rfl h9).trans <|
    (runs_stps (q' := (263, [.null, .int x1, .null, .int x3, .int x4, .int x5, .int x6, .int x7, .null, .null], [.int 3, .int x1], updL w 34 1 ((w.2 34 1) + 100001))) 2 rfl).trans <|
    (runs_if_t (a := 266) (b := 273) (L := [.null, .int x1, .null, .int x3, .int x4, .int x5, .int x6, .int x7, .null, .null]) (st := []) (w := updL w 34 1 ((w.2 34 1) + 100001)) rfl h10).trans <|
    (runs_stps (q' := (290, [.null, .int x1, .null, .int x3, .int x4, .int x5, .int x6, .int x7, .null, .null], [.int (2 * x4)], updL w 34 1 ((w.2 34 1) + 100001))) 4 rfl).trans <|
    runs_ret rfl
theorem p_X9_rate_109TTTTTTTTF_R {ex : Ex} {x1 : Int32} {x2 : Int32} {x3 : Int32} {x4 : Int32} {x5 : Int32} {x6 : Int32} {x7 : Int32} {x8 : Int32} {v9 : Value} {w : Wd} (h1 : (w.1 34 14) ≤ x8) (h2 : ¬ x1 = 0) (h3 : ¬ x1 = 1) (h4 : ¬ x1 = 2) (h5 : ¬ x1 = 3) (h6 : ¬ x1 = 4) (h7 : ¬ x1 = 0) (h8 : ¬ x1 = 1) (h9 : x1 = 2) : runs (T_X9_rate ex) (109, [.ref 34, .int x1, .int x2, .int x3, .int x4, .int x5, .int x6, .int x7, .int x8, v9], [], w) = some (some (.int x5), updL w 34 1 ((w.2 34 1) + 100001)) := 
    (runs_stps (q' := (115, [.ref 34, .int x1, .int x2, .int x3, .int x4, .int x5, .int x6, .int x7, .int x8, .null], [.int (w.1 34 14), .int x8], w)) 3 rfl).trans <|
    (runs_if_t (a := 169) (b := 118) (L := [.ref 34, .int x1, .int x2, .int x3, .int x4, .int x5, .int x6, .int x7, .int x8, .null]) (st := []) (w := w) rfl h1).trans <|
    (runs_stps (q' := (175, [.ref 34, .int x1, .null, .int x3, .int x4, .int x5, .int x6, .int x7, .null, .null], [.int x1, .long (w.2 34 1), .ref 34], w)) 4 rfl).trans <|
    (runs_if_f (a := 178) (b := 182) (L := [.ref 34, .int x1, .null, .int x3, .int x4, .int x5, .int x6, .int x7, .null, .null]) (st := [.long (w.2 34 1), .ref 34]) (w := w) rfl h2).trans <|
    (runs_stps (q' := (184, [.null, .int x1, .null, .int x3, .int x4, .int x5, .int x6, .int x7, .null, .null], [.int 1, .int x1, .long (w.2 34 1), .ref 34], w)) 2 rfl).trans <|
    (runs_if_f (a := 187) (b := 193) (L := [.null, .int x1, .null, .int x3, .int x4, .int x5, .int x6, .int x7, .null, .null]) (st := [.long (w.2 34 1), .ref 34]) (w := w) rfl h3).trans <|
    (runs_stps (q' := (195, [.null, .int x1, .null, .int x3, .int x4, .int x5, .int x6, .int x7, .null, .null], [.int 2, .int x1, .long (w.2 34 1), .ref 34], w)) 2 rfl).trans <|
    (runs_if_f (a := 198) (b := 204) (L := [.null, .int x1, .null, .int x3, .int x4, .int x5, .int x6, .int x7, .null, .null]) (st := [.long (w.2 34 1), .ref 34]) (w := w) rfl h4).trans <|
    (runs_stps (q' := (206, [.null, .int x1, .null, .int x3, .int x4, .int x5, .int x6, .int x7, .null, .null], [.int 3, .int x1, .long (w.2 34 1), .ref 34], w)) 2 rfl).trans <|
    (runs_if_f (a := 209) (b := 215) (L := [.null, .int x1, .null, .int x3, .int x4, .int x5, .int x6, .int x7, .null, .null]) (st := [.long (w.2 34 1), .ref 34]) (w := w) rfl h5).trans <|
    (runs_stps (q' := (217, [.null, .int x1, .null, .int x3, .int x4, .int x5, .int x6, .int x7, .null, .null], [.int 4, .int x1, .long (w.2 34 1), .ref 34], w)) 2 rfl).trans <|
    (runs_if_f (a := 220) (b := 226) (L := [.null, .int x1, .null, .int x3, .int x4, .int x5, .int x6, .int x7, .null, .null]) (st := [.long (w.2 34 1), .ref 34]) (w := w) rfl h6).trans <|
    (runs_stps (q' := (234, [.null, .int x1, .null, .int x3, .int x4, .int x5, .int x6, .int x7, .null, .null], [.int x1], updL w 34 1 ((w.2 34 1) + 100001))) 4 rfl).trans <|
    (runs_if_f (a := 237) (b := 241) (L := [.null, .int x1, .null, .int x3, .int x4, .int x5, .int x6, .int x7, .null, .null]) (st := []) (w := updL w 34 1 ((w.2 34 1) + 100001)) rfl h7).trans <|
    (runs_stps (q' := (243, [.null, .int x1, .null, .int x3, .int x4, .int x5, .int x6, .int x7, .null, .null], [.int 1, .int x1], updL w 34 1 ((w.2 34 1) + 100001))) 2 rfl).trans <|
    (runs_if_f (a := 246) (b := 251) (L := [.null, .int x1, .null, .int x3, .int x4, .int x5, .int x6, .int x7, .null, .null]) (st := []) (w := updL w 34 1 ((w.2 34 1) + 100001)) rfl h8).trans <|
    (runs_stps (q' := (253, [.null, .int x1, .null, .int x3, .int x4, .int x5, .int x6, .int x7, .null, .null], [.int 2, .int x1], updL w 34 1 ((w.2 34 1) + 100001))) 2 rfl).trans <|
    (runs_if_t (a := 256) (b := 261) (L := [.null, .int x1, .null, .int x3, .int x4, .int x5, .int x6, .int x7, .null, .null]) (st := []) (w := updL w 34 1 ((w.2 34 1) + 100001)) rfl h9).trans <|
    (runs_stps (q' := (290, [.null, .int x1, .null, .int x3, .int x4, .int x5, .int x6, .int x7, .null, .null], [.int x5], updL w 34 1 ((w.2 34 1) + 100001))) 2 rfl).trans <|
    runs_ret rfl
theorem p_X9_rate_109TTTTTTTF_R {ex : Ex} {x1 : Int32} {x2 : Int32} {x3 : Int32} {x4 : Int32} {x5 : Int32} {x6 : Int32} {x7 : Int32} {x8 : Int32} {v9 : Value} {w : Wd} (h1 : (w.1 34 14) ≤ x8) (h2 : ¬ x1 = 0) (h3 : ¬ x1 = 1) (h4 : ¬ x1 = 2) (h5 : ¬ x1 = 3) (h6 : ¬ x1 = 4) (h7 : ¬ x1 = 0) (h8 : x1 = 1) : runs (T_X9_rate ex) (109, [.ref 34, .int x1, .int x2, .int x3, .int x4, .int x5, .int x6, .int x7, .int x8, v9], [], w) = some (some (.int x4), updL w 34 1 ((w.2 34 1) + 100001)) := 
    (runs_stps (q' := (115, [.ref 34, .int x1, .int x2, .int x3, .int x4, .int x5, .int x6, .int x7, .int x8, .null], [.int (w.1 34 14), .int x8], w)) 3 rfl).trans <|
    (runs_if_t (a := 169) (b := 118) (L := [.ref 34, .int x1, .int x2, .int x3, .int x4, .int x5, .int x6, .int x7, .int x8, .null]) (st := []) (w := w) rfl h1).trans <|
    (runs_stps (q' := (175, [.ref 34, .int x1, .null, .int x3, .int x4, .int x5, .int x6, .int x7, .null, .null], [.int x1, .long (w.2 34 1), .ref 34], w)) 4 rfl).trans <|
    (runs_if_f (a := 178) (b := 182) (L := [.ref 34, .int x1, .null, .int x3, .int x4, .int x5, .int x6, .int x7, .null, .null]) (st := [.long (w.2 34 1), .ref 34]) (w := w) rfl h2).trans <|
    (runs_stps (q' := (184, [.null, .int x1, .null, .int x3, .int x4, .int x5, .int x6, .int x7, .null, .null], [.int 1, .int x1, .long (w.2 34 1), .ref 34], w)) 2 rfl).trans <|
    (runs_if_f (a := 187) (b := 193) (L := [.null, .int x1, .null, .int x3, .int x4, .int x5, .int x6, .int x7, .null, .null]) (st := [.long (w.2 34 1), .ref 34]) (w := w) rfl h3).trans <|
    (runs_stps (q' := (195, [.null, .int x1, .null, .int x3, .int x4, .int x5, .int x6, .int x7, .null, .null], [.int 2, .int x1, .long (w.2 34 1), .ref 34], w)) 2 rfl).trans <|
    (runs_if_f (a := 198) (b := 204) (L := [.null, .int x1, .null, .int x3, .int x4, .int x5, .int x6, .int x7, .null, .null]) (st := [.long (w.2 34 1), .ref 34]) (w := w) rfl h4).trans <|
    (runs_stps (q' := (206, [.null, .int x1, .null, .int x3, .int x4, .int x5, .int x6, .int x7, .null, .null], [.int 3, .int x1, .long (w.2 34 1), .ref 34], w)) 2 rfl).trans <|
    (runs_if_f (a := 209) (b := 215) (L := [.null, .int x1, .null, .int x3, .int x4, .int x5, .int x6, .int x7, .null, .null]) (st := [.long (w.2 34 1), .ref 34]) (w := w) rfl h5).trans <|
    (runs_stps (q' := (217, [.null, .int x1, .null, .int x3, .int x4, .int x5, .int x6, .int x7, .null, .null], [.int 4, .int x1, .long (w.2 34 1), .ref 34], w)) 2 rfl).trans <|
    (runs_if_f (a := 220) (b := 226) (L := [.null, .int x1, .null, .int x3, .int x4, .int x5, .int x6, .int x7, .null, .null]) (st := [.long (w.2 34 1), .ref 34]) (w := w) rfl h6).trans <|
    (runs_stps (q' := (234, [.null, .int x1, .null, .int x3, .int x4, .int x5, .int x6, .int x7, .null, .null], [.int x1], updL w 34 1 ((w.2 34 1) + 100001))) 4 rfl).trans <|
    (runs_if_f (a := 237) (b := 241) (L := [.null, .int x1, .null, .int x3, .int x4, .int x5, .int x6, .int x7, .null, .null]) (st := []) (w := updL w 34 1 ((w.2 34 1) + 100001)) rfl h7).trans <|
    (runs_stps (q' := (243, [.null, .int x1, .null, .int x3, .int x4, .int x5, .int x6, .int x7, .null, .null], [.int 1, .int x1], updL w 34 1 ((w.2 34 1) + 100001))) 2 rfl).trans <|
    (runs_if_t (a := 246) (b := 251) (L := [.null, .int x1, .null, .int x3, .int x4, .int x5, .int x6, .int x7, .null, .null]) (st := []) (w := updL w 34 1 ((w.2 34 1) + 100001)) rfl h8).trans <|
    (runs_stps (q' := (290, [.null, .int x1, .null, .int x3, .int x4, .int x5, .int x6, .int x7, .null, .null], [.int x4], updL w 34 1 ((w.2 34 1) + 100001))) 2 rfl).trans <|
    runs_ret rfl

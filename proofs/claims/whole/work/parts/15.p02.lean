/-! paths of the methods (printed by a program) -/
theorem p_X3_isWord_20FF_R {ex : Ex} {a : Nat} {x2 : Int32} {r1 : Int32} {w1 : Wd} {r2 : Int32} {w2 : Wd} {r3 : Int32} {w3 : Wd} {w : Wd} (ha : sca a) (h1 : ex 199 [.ref a] w = some (some (.int r1), w1)) (h2 : ¬ r1 ≤ x2) (h3 : ex 133 [.ref 2, .int ((w1.1 1 4) + x2)] w1 = some (some (.int r2), w2)) (h4 : ex 200 [.ref a, .int x2] w2 = some (some (.int r3), w3)) (h5 : ¬ r2 = r3) : runs (T_X3_isWord ex) (20, [.ref 1, .ref a, .int x2], [], w) = some (some (.int 0), w3) := by
  rcases ha with rfl | rfl | rfl | rfl | rfl | rfl
  · exact (runs_stps (q' := (22, [.ref 1, .ref 100, .int x2], [.ref 100, .int x2], w)) 2 rfl).trans <|
    (runs_callT (rv := some (.int r1)) (w' := w1) rfl rfl rfl h1).trans <|
    (runs_if_f (a := 57) (b := 28) (L := [.ref 1, .ref 100, .int x2]) (st := []) (w := w1) rfl h2).trans <|
    (runs_stps (q' := (38, [.ref 1, .ref 100, .int x2], [.int ((w1.1 1 4) + x2), .ref 2], w1)) 6 rfl).trans <|
    (runs_callS (rv := some (.int r2)) (w' := w2) rfl rfl rfl h3).trans <|
    (runs_stps (q' := (43, [.ref 1, .ref 100, .int x2], [.int x2, .ref 100, .int r2], w2)) 2 rfl).trans <|
    (runs_callT (rv := some (.int r3)) (w' := w3) rfl rfl rfl h4).trans <|
    (runs_if_f (a := 51) (b := 49) (L := [.ref 1, .ref 100, .int x2]) (st := []) (w := w3) rfl h5).trans <|
    (runs_stps (q' := (50, [.ref 1, .ref 100, .int x2], [.int 0], w3)) 1 rfl).trans <|
    runs_ret rfl
  · exact (runs_stps (q' := (22, [.ref 1, .ref 101, .int x2], [.ref 101, .int x2], w)) 2 rfl).trans <|
    (runs_callT (rv := some (.int r1)) (w' := w1) rfl rfl rfl h1).trans <|
    (runs_if_f (a := 57) (b := 28) (L := [.ref 1, .ref 101, .int x2]) (st := []) (w := w1) rfl h2).trans <|
    (runs_stps (q' := (38, [.ref 1, .ref 101, .int x2], [.int ((w1.1 1 4) + x2), .ref 2], w1)) 6 rfl).trans <|
    (runs_callS (rv := some (.int r2)) (w' := w2) rfl rfl rfl h3).trans <|
    (runs_stps (q' := (43, [.ref 1, .ref 101, .int x2], [.int x2, .ref 101, .int r2], w2)) 2 rfl).trans <|
    (runs_callT (rv := some (.int r3)) (w' := w3) rfl rfl rfl h4).trans <|
    (runs_if_f (a := 51) (b := 49) (L := [.ref 1, .ref 101, .int x2]) (st := []) (w := w3) rfl h5).trans <|
    (runs_stps (q' := (50, [.ref 1, .ref 101, .int x2], [.int 0], w3)) 1 rfl).trans <|
    runs_ret rfl
  · exact (runs_stps (q' := (22, [.ref 1, .ref 102, .int x2], [.ref 102, .int x2], w)) 2 rfl).trans <|
    (runs_callT (rv := some (.int r1)) (w' := w1) rfl rfl rfl h1).trans <|
    (runs_if_f (a := 57) (b := 28) (L := [.ref 1, .ref 102, .int x2]) (st := []) (w := w1) rfl h2).trans <|
    (runs_stps (q' := (38, [.ref 1, .ref 102, .int x2], [.int ((w1.1 1 4) + x2), .ref 2], w1)) 6 rfl).trans <|
    (runs_callS (rv := some (.int r2)) (w' := w2) rfl rfl rfl h3).trans <|
    (runs_stps (q' := (43, [.ref 1, .ref 102, .int x2], [.int x2, .ref 102, .int r2], w2)) 2 rfl).trans <|
    (runs_callT (rv := some (.int r3)) (w' := w3) rfl rfl rfl h4).trans <|
    (runs_if_f (a := 51) (b := 49) (L := [.ref 1, .ref 102, .int x2]) (st := []) (w := w3) rfl h5).trans <|
    (runs_stps (q' := (50, [.ref 1, .ref 102, .int x2], [.int 0], w3)) 1 rfl).trans <|
    runs_ret rfl
  · exact (runs_stps (q' := (22, [.ref 1, .ref 103, .int x2], [.ref 103, .int x2], w)) 2 rfl).trans <|
    (runs_callT (rv := some (.int r1)) (w' := w1) rfl rfl rfl h1).trans <|
    (runs_if_f (a := 57) (b := 28) (L := [.ref 1, .ref 103, .int x2]) (st := []) (w := w1) rfl h2).trans <|
    (runs_stps (q' := (38, [.ref 1, .ref 103, .int x2], [.int ((w1.1 1 4) + x2), .ref 2], w1)) 6 rfl).trans <|
    (runs_callS (rv := some (.int r2)) (w' := w2) rfl rfl rfl h3).trans <|
    (runs_stps (q' := (43, [.ref 1, .ref 103, .int x2], [.int x2, .ref 103, .int r2], w2)) 2 rfl).trans <|
    (runs_callT (rv := some (.int r3)) (w' := w3) rfl rfl rfl h4).trans <|
    (runs_if_f (a := 51) (b := 49) (L := [.ref 1, .ref 103, .int x2]) (st := []) (w := w3) rfl h5).trans <|
    (runs_stps (q' := (50, [.ref 1, .ref 103, .int x2], [.int 0], w3)) 1 rfl).trans <|
    runs_ret rfl
  · exact (runs_stps (q' := (22, [.ref 1, .ref 104, .int x2], [.ref 104, .int x2], w)) 2 rfl).trans <|
    (runs_callT (rv := some (.int r1)) (w' := w1) rfl rfl rfl h1).trans <|
    (runs_if_f (a := 57) (b := 28) (L := [.ref 1, .ref 104, .int x2]) (st := []) (w := w1) rfl h2).trans <|
    (runs_stps (q' := (38, [.ref 1, .ref 104, .int x2], [.int ((w1.1 1 4) + x2), .ref 2], w1)) 6 rfl).trans <|
    (runs_callS (rv := some (.int r2)) (w' := w2) rfl rfl rfl h3).trans <|
    (runs_stps (q' := (43, [.ref 1, .ref 104, .int x2], [.int x2, .ref 104, .int r2], w2)) 2 rfl).trans <|
    (runs_callT (rv := some (.int r3)) (w' := w3) rfl rfl rfl h4).trans <|
    (runs_if_f (a := 51) (b := 49) (L := [.ref 1, .ref 104, .int x2]) (st := []) (w := w3) rfl h5).trans <|
    (runs_stps (q' := (50, [.ref 1, .ref 104, .int x2], [.int 0], w3)) 1 rfl).trans <|
    runs_ret rfl
  · exact (runs_stps (q' := (22, [.ref 1, .ref 105, .int x2], [.ref 105, .int x2], w)) 2 rfl).trans <|
    (runs_callT (rv := some (.int r1)) (w' := w1) rfl rfl rfl h1).trans <|
    (runs_if_f (a := 57) (b := 28) (L := [.ref 1, .ref 105, .int x2]) (st := []) (w := w1) rfl h2).trans <|
    (runs_stps (q' := (38, [.ref 1, .ref 105, .int x2], [.int ((w1.1 1 4) + x2), .ref 2], w1)) 6 rfl).trans <|
    (runs_callS (rv := some (.int r2)) (w' := w2) rfl rfl rfl h3).trans <|
    (runs_stps (q' := (43, [.ref 1, .ref 105, .int x2], [.int x2, .ref 105, .int r2], w2)) 2 rfl).trans <|
    (runs_callT (rv := some (.int r3)) (w' := w3) rfl rfl rfl h4).trans <|
    (runs_if_f (a := 51) (b := 49) (L := [.ref 1, .ref 105, .int x2]) (st := []) (w := w3) rfl h5).trans <|
    (runs_stps (q' := (50, [.ref 1, .ref 105, .int x2], [.int 0], w3)) 1 rfl).trans <|
    runs_ret rfl
theorem p_X3_isDigit_0T_R {ex : Ex} {x0 : Int32} {w : Wd} (h1 : x0 < 48) : runs (T_X3_isDigit ex) (0, [.int x0], [], w) = some (some (.int 0), w) := 
    (runs_stps (q' := (3, [.int x0], [.int 48, .int x0], w)) 2 rfl).trans <|
    (runs_if_t (a := 16) (b := 6) (L := [.int x0]) (st := []) (w := w) rfl h1).trans <|
    (runs_stps (q' := (17, [.null], [.int 0], w)) 1 rfl).trans <|
    runs_ret rfl
theorem p_X3_isDigit_0FT_R {ex : Ex} {x0 : Int32} {w : Wd} (h1 : ¬ x0 < 48) (h2 : 57 < x0) : runs (T_X3_isDigit ex) (0, [.int x0], [], w) = some (some (.int 0), w) := 
    (runs_stps (q' := (3, [.int x0], [.int 48, .int x0], w)) 2 rfl).trans <|
    (runs_if_f (a := 16) (b := 6) (L := [.int x0]) (st := []) (w := w) rfl h1).trans <|
    (runs_stps (q' := (9, [.int x0], [.int 57, .int x0], w)) 2 rfl).trans <|
    (runs_if_t (a := 16) (b := 12) (L := [.int x0]) (st := []) (w := w) rfl h2).trans <|
    (runs_stps (q' := (17, [.null], [.int 0], w)) 1 rfl).trans <|
    runs_ret rfl
theorem p_X3_isDigit_0FF_R {ex : Ex} {x0 : Int32} {w : Wd} (h1 : ¬ x0 < 48) (h2 : ¬ 57 < x0) : runs (T_X3_isDigit ex) (0, [.int x0], [], w) = some (some (.int 1), w) := 
    (runs_stps (q' := (3, [.int x0], [.int 48, .int x0], w)) 2 rfl).trans <|
    (runs_if_f (a := 16) (b := 6) (L := [.int x0]) (st := []) (w := w) rfl h1).trans <|
    (runs_stps (q' := (9, [.int x0], [.int 57, .int x0], w)) 2 rfl).trans <|
    (runs_if_f (a := 16) (b := 12) (L := [.int x0]) (st := []) (w := w) rfl h2).trans <|
    (runs_stps (q' := (17, [.int x0], [.int 1], w)) 2 rfl).trans <|
    runs_ret rfl
theorem p_X3_isLetter_0T_R {ex : Ex} {x0 : Int32} {w : Wd} (h1 : x0 < 97) : runs (T_X3_isLetter ex) (0, [.int x0], [], w) = some (some (.int 0), w) := 
    (runs_stps (q' := (3, [.int x0], [.int 97, .int x0], w)) 2 rfl).trans <|
    (runs_if_t (a := 16) (b := 6) (L := [.int x0]) (st := []) (w := w) rfl h1).trans <|
    (runs_stps (q' := (17, [.null], [.int 0], w)) 1 rfl).trans <|
    runs_ret rfl
theorem p_X3_isLetter_0FT_R {ex : Ex} {x0 : Int32} {w : Wd} (h1 : ¬ x0 < 97) (h2 : 122 < x0) : runs (T_X3_isLetter ex) (0, [.int x0], [], w) = some (some (.int 0), w) := 
    (runs_stps (q' := (3, [.int x0], [.int 97, .int x0], w)) 2 rfl).trans <|
    (runs_if_f (a := 16) (b := 6) (L := [.int x0]) (st := []) (w := w) rfl h1).trans <|
    (runs_stps (q' := (9, [.int x0], [.int 122, .int x0], w)) 2 rfl).trans <|
    (runs_if_t (a := 16) (b := 12) (L := [.int x0]) (st := []) (w := w) rfl h2).trans <|
    (runs_stps (q' := (17, [.null], [.int 0], w)) 1 rfl).trans <|
    runs_ret rfl
theorem p_X3_isLetter_0FF_R {ex : Ex} {x0 : Int32} {w : Wd} (h1 : ¬ x0 < 97) (h2 : ¬ 122 < x0) : runs (T_X3_isLetter ex) (0, [.int x0], [], w) = some (some (.int 1), w) := 
    (runs_stps (q' := (3, [.int x0], [.int 97, .int x0], w)) 2 rfl).trans <|
    (runs_if_f (a := 16) (b := 6) (L := [.int x0]) (st := []) (w := w) rfl h1).trans <|
    (runs_stps (q' := (9, [.int x0], [.int 122, .int x0], w)) 2 rfl).trans <|
    (runs_if_f (a := 16) (b := 12) (L := [.int x0]) (st := []) (w := w) rfl h2).trans <|
    (runs_stps (q' := (17, [.int x0], [.int 1], w)) 2 rfl).trans <|
    runs_ret rfl
theorem p_X4_isFull_0T_R {ex : Ex} {x0 : Int32} {w : Wd} (h1 : x0 < 781) : runs (T_X4_isFull ex) (0, [.int x0], [], w) = some (some (.int 0), w) := 
    (runs_stps (q' := (4, [.int x0], [.int 781, .int x0], w)) 2 rfl).trans <|
    (runs_if_t (a := 11) (b := 7) (L := [.int x0]) (st := []) (w := w) rfl h1).trans <|
    (runs_stps (q' := (12, [.null], [.int 0], w)) 1 rfl).trans <|
    runs_ret rfl
theorem p_X4_isFull_0F_R {ex : Ex} {x0 : Int32} {w : Wd} (h1 : ¬ x0 < 781) : runs (T_X4_isFull ex) (0, [.int x0], [], w) = some (some (.int 1), w) := 
    (runs_stps (q' := (4, [.int x0], [.int 781, .int x0], w)) 2 rfl).trans <|
    (runs_if_f (a := 11) (b := 7) (L := [.int x0]) (st := []) (w := w) rfl h1).trans <|
    (runs_stps (q' := (12, [.int x0], [.int 1], w)) 2 rfl).trans <|
    runs_ret rfl
theorem p_X4_with_0_R {ex : Ex} {x0 : Int32} {x1 : Int32} {w : Wd} : runs (T_X4_with ex) (0, [.int x0, .int x1], [], w) = some (some (.int (((x0 * 5) + x1) + 1)), w) := 
    (runs_stps (q' := (7, [.int x0, .int x1], [.int (((x0 * 5) + x1) + 1)], w)) 7 rfl).trans <|
    runs_ret rfl
theorem p_X4_top_0T_R {ex : Ex} {x0 : Int32} {w : Wd} (h1 : x0 ≤ 0) : runs (T_X4_top ex) (0, [.int x0], [], w) = some (some (.int (-5)), w) := 
    (runs_stps (q' := (1, [.int x0], [.int x0], w)) 1 rfl).trans <|
    (runs_if_t (a := 12) (b := 4) (L := [.int x0]) (st := []) (w := w) rfl h1).trans <|
    (runs_stps (q' := (14, [.null], [.int (-5)], w)) 1 rfl).trans <|
    runs_ret rfl
theorem p_X4_top_0F_R {ex : Ex} {x0 : Int32} {w : Wd} (h1 : ¬ x0 ≤ 0) : runs (T_X4_top ex) (0, [.int x0], [], w) = some (some (.int ((x0 - 1) - (x0 - 1) / 5 * 5)), w) := 
    (runs_stps (q' := (1, [.int x0], [.int x0], w)) 1 rfl).trans <|
    (runs_if_f (a := 12) (b := 4) (L := [.int x0]) (st := []) (w := w) rfl h1).trans <|
    (runs_stps (q' := (14, [.int x0], [.int ((x0 - 1) - (x0 - 1) / 5 * 5)], w)) 6 rfl).trans <|
    runs_ret rfl
theorem p_X4_below_0T_R {ex : Ex} {x0 : Int32} {w : Wd} (h1 : x0 ≤ 0) : runs (T_X4_below ex) (0, [.int x0], [], w) = some (some (.int 0), w) := 
    (runs_stps (q' := (1, [.int x0], [.int x0], w)) 1 rfl).trans <|
    (runs_if_t (a := 12) (b := 4) (L := [.int x0]) (st := []) (w := w) rfl h1).trans <|
    (runs_stps (q' := (13, [.null], [.int 0], w)) 1 rfl).trans <|
    runs_ret rfl
theorem p_X4_below_0F_R {ex : Ex} {x0 : Int32} {w : Wd} (h1 : ¬ x0 ≤ 0) : runs (T_X4_below ex) (0, [.int x0], [], w) = some (some (.int ((x0 - 1) / 5)), w) := 
    (runs_stps (q' := (1, [.int x0], [.int x0], w)) 1 rfl).trans <|
    (runs_if_f (a := 12) (b := 4) (L := [.int x0]) (st := []) (w := w) rfl h1).trans <|
    (runs_stps (q' := (13, [.int x0], [.int ((x0 - 1) / 5)], w)) 6 rfl).trans <|
    runs_ret rfl
theorem p_X4_without_0_L4 {ex : Ex} {x0 : Int32} {x1 : Int32} {w : Wd} : runs (T_X4_without ex) (0, [.int x0, .int x1, .null, .null], [], w) = runs (T_X4_without ex) (4, [.int x0, .int x1, .int x0, .int 0], [], w) := 
    (runs_stps (q' := (4, [.int x0, .int x1, .int x0, .int 0], [], w)) 4 rfl).trans <|
    rfl
theorem p_X4_without_4T_R {ex : Ex} {v0 : Value} {x1 : Int32} {x2 : Int32} {x3 : Int32} {w : Wd} (h1 : x1 ≤ x3) : runs (T_X4_without ex) (4, [v0, .int x1, .int x2, .int x3], [], w) = some (some (.int x2), w) := 
    (runs_stps (q' := (6, [.null, .int x1, .int x2, .int x3], [.int x1, .int x3], w)) 2 rfl).trans <|
    (runs_if_t (a := 24) (b := 9) (L := [.null, .int x1, .int x2, .int x3]) (st := []) (w := w) rfl h1).trans <|
    (runs_stps (q' := (25, [.null, .null, .int x2, .null], [.int x2], w)) 1 rfl).trans <|
    runs_ret rfl
theorem p_X4_without_4FT_R {ex : Ex} {v0 : Value} {x1 : Int32} {x2 : Int32} {x3 : Int32} {w : Wd} (h1 : ¬ x1 ≤ x3) (h2 : x2 ≤ 0) : runs (T_X4_without ex) (4, [v0, .int x1, .int x2, .int x3], [], w) = some (some (.int x2), w) := 
    (runs_stps (q' := (6, [.null, .int x1, .int x2, .int x3], [.int x1, .int x3], w)) 2 rfl).trans <|
    (runs_if_f (a := 24) (b := 9) (L := [.null, .int x1, .int x2, .int x3]) (st := []) (w := w) rfl h1).trans <|
    (runs_stps (q' := (10, [.null, .int x1, .int x2, .int x3], [.int x2], w)) 1 rfl).trans <|
    (runs_if_t (a := 24) (b := 13) (L := [.null, .int x1, .int x2, .int x3]) (st := []) (w := w) rfl h2).trans <|
    (runs_stps (q' := (25, [.null, .null, .int x2, .null], [.int x2], w)) 1 rfl).trans <|
    runs_ret rfl
theorem p_X4_without_4FF_L4 {ex : Ex} {v0 : Value} {x1 : Int32} {x2 : Int32} {x3 : Int32} {r1 : Int32} {w1 : Wd} {w : Wd} (h1 : ¬ x1 ≤ x3) (h2 : ¬ x2 ≤ 0) (h3 : ex 41 [.int x2] w = some (some (.int r1), w1)) : runs (T_X4_without ex) (4, [v0, .int x1, .int x2, .int x3], [], w) = runs (T_X4_without ex) (4, [.null, .int x1, .int r1, .int (x3 + 1)], [], w1) := 
    (runs_stps (q' := (6, [.null, .int x1, .int x2, .int x3], [.int x1, .int x3], w)) 2 rfl).trans <|
    (runs_if_f (a := 24) (b := 9) (L := [.null, .int x1, .int x2, .int x3]) (st := []) (w := w) rfl h1).trans <|
    (runs_stps (q' := (10, [.null, .int x1, .int x2, .int x3], [.int x2], w)) 1 rfl).trans <|
    (runs_if_f (a := 24) (b := 13) (L := [.null, .int x1, .int x2, .int x3]) (st := []) (w := w) rfl h2).trans <|
    (runs_stps (q' := (14, [.null, .int x1, .int x2, .int x3], [.int x2], w)) 1 rfl).trans <|
    (runs_callS (rv := some (.int r1)) (w' := w1) rfl rfl rfl h3).trans <|
    (runs_stps (q' := (4, [.null, .int x1, .int r1, .int (x3 + 1)], [], w1)) 3 rfl).trans <|
    rfl
theorem p_X4_fromAbove_0_R {ex : Ex} {x0 : Int32} {x1 : Int32} {r1 : Int32} {w1 : Wd} {r2 : Int32} {w2 : Wd} {w : Wd} (h1 : ex 42 [.int x0, .int x1] w = some (some (.int r1), w1)) (h2 : ex 40 [.int r1] w1 = some (some (.int r2), w2)) : runs (T_X4_fromAbove ex) (0, [.int x0, .int x1], [], w) = some (some (.int r2), w2) := 
    (runs_stps (q' := (2, [.int x0, .int x1], [.int x1, .int x0], w)) 2 rfl).trans <|
    (runs_callS (rv := some (.int r1)) (w' := w1) rfl rfl rfl h1).trans <|
    (runs_callS (rv := some (.int r2)) (w' := w2) rfl rfl rfl h2).trans <|
    runs_ret rfl
theorem p_X4_swapped_0_R {ex : Ex} {x0 : Int32} {r1 : Int32} {w1 : Wd} {r2 : Int32} {w2 : Wd} {r3 : Int32} {w3 : Wd} {r4 : Int32} {w4 : Wd} {r5 : Int32} {w5 : Wd} {r6 : Int32} {w6 : Wd} {w : Wd} (h1 : ex 41 [.int x0] w = some (some (.int r1), w1)) (h2 : ex 41 [.int r1] w1 = some (some (.int r2), w2)) (h3 : ex 40 [.int x0] w2 = some (some (.int r3), w3)) (h4 : ex 39 [.int r2, .int r3] w3 = some (some (.int r4), w4)) (h5 : ex 40 [.int r1] w4 = some (some (.int r5), w5)) (h6 : ex 39 [.int r4, .int r5] w5 = some (some (.int r6), w6)) : runs (T_X4_swapped ex) (0, [.int x0, .null], [], w) = some (some (.int r6), w6) := 
    (runs_stps (q' := (1, [.int x0, .null], [.int x0], w)) 1 rfl).trans <|
    (runs_callS (rv := some (.int r1)) (w' := w1) rfl rfl rfl h1).trans <|
    (runs_stps (q' := (6, [.int x0, .int r1], [.int r1], w1)) 2 rfl).trans <|
    (runs_callS (rv := some (.int r2)) (w' := w2) rfl rfl rfl h2).trans <|
    (runs_stps (q' := (10, [.int x0, .int r1], [.int x0, .int r2], w2)) 1 rfl).trans <|
    (runs_callS (rv := some (.int r3)) (w' := w3) rfl rfl rfl h3).trans <|
    (runs_callS (rv := some (.int r4)) (w' := w4) rfl rfl rfl h4).trans <|
    (runs_stps (q' := (17, [.int x0, .int r1], [.int r1, .int r4], w4)) 1 rfl).trans <|
    (runs_callS (rv := some (.int r5)) (w' := w5) rfl rfl rfl h5).trans <|
    (runs_callS (rv := some (.int r6)) (w' := w6) rfl rfl rfl h6).trans <|
    runs_ret rfl
theorem p_X4_depth_0_L4 {ex : Ex} {x0 : Int32} {w : Wd} : runs (T_X4_depth ex) (0, [.int x0, .null, .null], [], w) = runs (T_X4_depth ex) (4, [.int x0, .int 0, .int x0], [], w) := 
    (runs_stps (q' := (4, [.int x0, .int 0, .int x0], [], w)) 4 rfl).trans <|
    rfl
theorem p_X4_depth_4T_R {ex : Ex} {v0 : Value} {x1 : Int32} {x2 : Int32} {w : Wd} (h1 : x2 ≤ 0) : runs (T_X4_depth ex) (4, [v0, .int x1, .int x2], [], w) = some (some (.int x1), w) := 
    (runs_stps (q' := (5, [.null, .int x1, .int x2], [.int x2], w)) 1 rfl).trans <|
    (runs_if_t (a := 24) (b := 8) (L := [.null, .int x1, .int x2]) (st := []) (w := w) rfl h1).trans <|
    (runs_stps (q' := (25, [.null, .int x1, .null], [.int x1], w)) 1 rfl).trans <|
    runs_ret rfl
theorem p_X4_depth_4FT_R {ex : Ex} {v0 : Value} {x1 : Int32} {x2 : Int32} {w : Wd} (h1 : ¬ x2 ≤ 0) (h2 : 5 ≤ x1) : runs (T_X4_depth ex) (4, [v0, .int x1, .int x2], [], w) = some (some (.int x1), w) := 
    (runs_stps (q' := (5, [.null, .int x1, .int x2], [.int x2], w)) 1 rfl).trans <|
    (runs_if_f (a := 24) (b := 8) (L := [.null, .int x1, .int x2]) (st := []) (w := w) rfl h1).trans <|
    (runs_stps (q' := (10, [.null, .int x1, .int x2], [.int 5, .int x1], w)) 2 rfl).trans <|
    (runs_if_t (a := 24) (b := 13) (L := [.null, .int x1, .int x2]) (st := []) (w := w) rfl h2).trans <|
    (runs_stps (q' := (25, [.null, .int x1, .null], [.int x1], w)) 1 rfl).trans <|
    runs_ret rfl
theorem p_X4_depth_4FF_L4 {ex : Ex} {v0 : Value} {x1 : Int32} {x2 : Int32} {r1 : Int32} {w1 : Wd} {w : Wd} (h1 : ¬ x2 ≤ 0) (h2 : ¬ 5 ≤ x1) (h3 : ex 41 [.int x2] w = some (some (.int r1), w1)) : runs (T_X4_depth ex) (4, [v0, .int x1, .int x2], [], w) = runs (T_X4_depth ex) (4, [.null, .int (x1 + 1), .int r1], [], w1) := 
    (runs_stps (q' := (5, [.null, .int x1, .int x2], [.int x2], w)) 1 rfl).trans <|
    (runs_if_f (a := 24) (b := 8) (L := [.null, .int x1, .int x2]) (st := []) (w := w) rfl h1).trans <|
    (runs_stps (q' := (10, [.null, .int x1, .int x2], [.int 5, .int x1], w)) 2 rfl).trans <|
    (runs_if_f (a := 24) (b := 13) (L := [.null, .int x1, .int x2]) (st := []) (w := w) rfl h2).trans <|
    (runs_stps (q' := (17, [.null, .int (x1 + 1), .int x2], [.int x2], w)) 2 rfl).trans <|
    (runs_callS (rv := some (.int r1)) (w' := w1) rfl rfl rfl h3).trans <|
    (runs_stps (q' := (4, [.null, .int (x1 + 1), .int r1], [], w1)) 2 rfl).trans <|
    rfl
theorem p_X5_beNew_0_R {ex : Ex} {p : Nat} {w1 : Wd} {w : Wd} (hp : scp p) (h1 : ex 205 [.ref (p + 5), .int 0] (updI (updI (updI (updI (updI (updI w p 6 0) p 7 0) p 8 0) p 9 1) p 10 1) p 11 4) = some (none, w1)) : runs (T_X5_beNew ex) (0, [.ref p], [], w) = some (none, w1) := by
  rcases hp with rfl | rfl
  · exact (runs_stps (q' := (35, [.ref 20], [.int 0, .ref (20 + 5)], updI (updI (updI (updI (updI (updI w 20 6 0) 20 7 0) 20 8 0) 20 9 1) 20 10 1) 20 11 4)) 21 rfl).trans <|
    (runs_callS (rv := none) (w' := w1) rfl rfl rfl h1).trans <|
    runs_ret rfl
  · exact (runs_stps (q' := (35, [.ref 27], [.int 0, .ref (27 + 5)], updI (updI (updI (updI (updI (updI w 27 6 0) 27 7 0) 27 8 0) 27 9 1) 27 10 1) 27 11 4)) 21 rfl).trans <|
    (runs_callS (rv := none) (w' := w1) rfl rfl rfl h1).trans <|
    runs_ret rfl
theorem p_X5_addSpell_0_R {ex : Ex} {p : Nat} {x1 : Int32} {x2 : Int32} {x3 : Int32} {x4 : Int32} {w1 : Wd} {w2 : Wd} {w3 : Wd} {w4 : Wd} {w : Wd} (hp : scp p) (h1 : ex 134 [.ref (p + 1), .int (w.1 p 6), .int x1] w = some (none, w1)) (h2 : ex 134 [.ref (p + 2), .int (w1.1 p 6), .int x2] w1 = some (none, w2)) (h3 : ex 134 [.ref (p + 3), .int (w2.1 p 6), .int x3] w2 = some (none, w3)) (h4 : ex 134 [.ref (p + 4), .int (w3.1 p 6), .int x4] w3 = some (none, w4)) : runs (T_X5_addSpell ex) (0, [.ref p, .int x1, .int x2, .int x3, .int x4], [], w) = some (none, updI w4 p 6 ((w4.1 p 6) + 1)) := by
  rcases hp with rfl | rfl
  · exact (runs_stps (q' := (9, [.ref 20, .int x1, .int x2, .int x3, .int x4], [.int x1, .int (w.1 20 6), .ref (20 + 1)], w)) 5 rfl).trans <|
    (runs_callS (rv := none) (w' := w1) rfl rfl rfl h1).trans <|
    (runs_stps (q' := (21, [.ref 20, .int x1, .int x2, .int x3, .int x4], [.int x2, .int (w1.1 20 6), .ref (20 + 2)], w1)) 5 rfl).trans <|
    (runs_callS (rv := none) (w' := w2) rfl rfl rfl h2).trans <|
    (runs_stps (q' := (33, [.ref 20, .int x1, .int x2, .int x3, .int x4], [.int x3, .int (w2.1 20 6), .ref (20 + 3)], w2)) 5 rfl).trans <|
    (runs_callS (rv := none) (w' := w3) rfl rfl rfl h3).trans <|
    (runs_stps (q' := (46, [.ref 20, .int x1, .int x2, .int x3, .int x4], [.int x4, .int (w3.1 20 6), .ref (20 + 4)], w3)) 5 rfl).trans <|
    (runs_callS (rv := none) (w' := w4) rfl rfl rfl h4).trans <|
    (runs_stps (q' := (59, [.ref 20, .int x1, .int x2, .int x3, .int x4], [], updI w4 20 6 ((w4.1 20 6) + 1))) 6 rfl).trans <|
    runs_ret rfl
  · exact (runs_stps (q' := (9, [.ref 27, .int x1, .int x2, .int x3, .int x4], [.int x1, .int (w.1 27 6), .ref (27 + 1)], w)) 5 rfl).trans <|
    (runs_callS (rv := none) (w' := w1) rfl rfl rfl h1).trans <|
    (runs_stps (q' := (21, [.ref 27, .int x1, .int x2, .int x3, .int x4], [.int x2, .int (w1.1 27 6), .ref (27 + 2)], w1)) 5 rfl).trans <|
    (runs_callS (rv := none) (w' := w2) rfl rfl rfl h2).trans <|
    (runs_stps (q' := (33, [.ref 27, .int x1, .int x2, .int x3, .int x4], [.int x3, .int (w2.1 27 6), .ref (27 + 3)], w2)) 5 rfl).trans <|
    (runs_callS (rv := none) (w' := w3) rfl rfl rfl h3).trans <|
    (runs_stps (q' := (46, [.ref 27, .int x1, .int x2, .int x3, .int x4], [.int x4, .int (w3.1 27 6), .ref (27 + 4)], w3)) 5 rfl).trans <|
    (runs_callS (rv := none) (w' := w4) rfl rfl rfl h4).trans <|
    (runs_stps (q' := (59, [.ref 27, .int x1, .int x2, .int x3, .int x4], [], updI w4 27 6 ((w4.1 27 6) + 1))) 6 rfl).trans <|
    runs_ret rfl
theorem p_X5_addThing_0_R {ex : Ex} {p : Nat} {x1 : Int32} {w1 : Wd} {w : Wd} (hp : scp p) (h1 : ex 134 [.ref (p + 5), .int (w.1 p 7), .int x1] w = some (none, w1)) : runs (T_X5_addThing ex) (0, [.ref p, .int x1], [], w) = some (none, updI w1 p 7 ((w1.1 p 7) + 1)) := by
  rcases hp with rfl | rfl
  · exact (runs_stps (q' := (9, [.ref 20, .int x1], [.int x1, .int (w.1 20 7), .ref (20 + 5)], w)) 5 rfl).trans <|
    (runs_callS (rv := none) (w' := w1) rfl rfl rfl h1).trans <|
    (runs_stps (q' := (22, [.ref 20, .int x1], [], updI w1 20 7 ((w1.1 20 7) + 1))) 6 rfl).trans <|
    runs_ret rfl
  · exact (runs_stps (q' := (9, [.ref 27, .int x1], [.int x1, .int (w.1 27 7), .ref (27 + 5)], w)) 5 rfl).trans <|
    (runs_callS (rv := none) (w' := w1) rfl rfl rfl h1).trans <|
    (runs_stps (q' := (22, [.ref 27, .int x1], [], updI w1 27 7 ((w1.1 27 7) + 1))) 6 rfl).trans <|
    runs_ret rfl
theorem p_X5_addPupil_0_R {ex : Ex} {p : Nat} {x1 : Int32} {w1 : Wd} {w : Wd} (hp : scp p) (h1 : ex 134 [.ref (p + 6), .int (w.1 p 8), .int x1] w = some (none, w1)) : runs (T_X5_addPupil ex) (0, [.ref p, .int x1], [], w) = some (none, updI w1 p 8 ((w1.1 p 8) + 1)) := by
  rcases hp with rfl | rfl
  · exact (runs_stps (q' := (9, [.ref 20, .int x1], [.int x1, .int (w.1 20 8), .ref (20 + 6)], w)) 5 rfl).trans <|
    (runs_callS (rv := none) (w' := w1) rfl rfl rfl h1).trans <|
    (runs_stps (q' := (22, [.ref 20, .int x1], [], updI w1 20 8 ((w1.1 20 8) + 1))) 6 rfl).trans <|
    runs_ret rfl
  · exact (runs_stps (q' := (9, [.ref 27, .int x1], [.int x1, .int (w.1 27 8), .ref (27 + 6)], w)) 5 rfl).trans <|
    (runs_callS (rv := none) (w' := w1) rfl rfl rfl h1).trans <|
    (runs_stps (q' := (22, [.ref 27, .int x1], [], updI w1 27 8 ((w1.1 27 8) + 1))) 6 rfl).trans <|
    runs_ret rfl
theorem p_X5_setSwapCost_0_R {ex : Ex} {p : Nat} {x1 : Int32} {w : Wd} (hp : scp p) : runs (T_X5_setSwapCost ex) (0, [.ref p, .int x1], [], w) = some (none, updI w p 9 x1) := by
  rcases hp with rfl | rfl
  · exact (runs_stps (q' := (5, [.ref 20, .int x1], [], updI w 20 9 x1)) 3 rfl).trans <|
    runs_ret rfl
  · exact (runs_stps (q' := (5, [.ref 27, .int x1], [], updI w 27 9 x1)) 3 rfl).trans <|
    runs_ret rfl
theorem p_X5_setCopyCost_0_R {ex : Ex} {p : Nat} {x1 : Int32} {w : Wd} (hp : scp p) : runs (T_X5_setCopyCost ex) (0, [.ref p, .int x1], [], w) = some (none, updI w p 10 x1) := by
  rcases hp with rfl | rfl
  · exact (runs_stps (q' := (5, [.ref 20, .int x1], [], updI w 20 10 x1)) 3 rfl).trans <|
    runs_ret rfl
  · exact (runs_stps (q' := (5, [.ref 27, .int x1], [], updI w 27 10 x1)) 3 rfl).trans <|
    runs_ret rfl
theorem p_X5_setHumDepth_0_R {ex : Ex} {p : Nat} {x1 : Int32} {w : Wd} (hp : scp p) : runs (T_X5_setHumDepth ex) (0, [.ref p, .int x1], [], w) = some (none, updI w p 11 x1) := by
  rcases hp with rfl | rfl
  · exact (runs_stps (q' := (5, [.ref 20, .int x1], [], updI w 20 11 x1)) 3 rfl).trans <|
    runs_ret rfl
  · exact (runs_stps (q' := (5, [.ref 27, .int x1], [], updI w 27 11 x1)) 3 rfl).trans <|
    runs_ret rfl
theorem p_X5_spells_0_R {ex : Ex} {p : Nat} {w : Wd} (hp : scp p) : runs (T_X5_spells ex) (0, [.ref p], [], w) = some (some (.int (w.1 p 6)), w) := by
  rcases hp with rfl | rfl
  · exact (runs_stps (q' := (4, [.ref 20], [.int (w.1 20 6)], w)) 2 rfl).trans <|
    runs_ret rfl
  · exact (runs_stps (q' := (4, [.ref 27], [.int (w.1 27 6)], w)) 2 rfl).trans <|
    runs_ret rfl
theorem p_X5_things_0_R {ex : Ex} {p : Nat} {w : Wd} (hp : scp p) : runs (T_X5_things ex) (0, [.ref p], [], w) = some (some (.int (w.1 p 7)), w) := by
  rcases hp with rfl | rfl
  · exact (runs_stps (q' := (4, [.ref 20], [.int (w.1 20 7)], w)) 2 rfl).trans <|
    runs_ret rfl
  · exact (runs_stps (q' := (4, [.ref 27], [.int (w.1 27 7)], w)) 2 rfl).trans <|
    runs_ret rfl
theorem p_X5_pupils_0_R {ex : Ex} {p : Nat} {w : Wd} (hp : scp p) : runs (T_X5_pupils ex) (0, [.ref p], [], w) = some (some (.int (w.1 p 8)), w) := by
  rcases hp with rfl | rfl
  · exact (runs_stps (q' := (4, [.ref 20], [.int (w.1 20 8)], w)) 2 rfl).trans <|
    runs_ret rfl
  · exact (runs_stps (q' := (4, [.ref 27], [.int (w.1 27 8)], w)) 2 rfl).trans <|
    runs_ret rfl
theorem p_X5_costOfSwap_0_R {ex : Ex} {p : Nat} {w : Wd} (hp : scp p) : runs (T_X5_costOfSwap ex) (0, [.ref p], [], w) = some (some (.int (w.1 p 9)), w) := by
  rcases hp with rfl | rfl
  · exact (runs_stps (q' := (4, [.ref 20], [.int (w.1 20 9)], w)) 2 rfl).trans <|
    runs_ret rfl
  · exact (runs_stps (q' := (4, [.ref 27], [.int (w.1 27 9)], w)) 2 rfl).trans <|
    runs_ret rfl
theorem p_X5_costOfCopy_0_R {ex : Ex} {p : Nat} {w : Wd} (hp : scp p) : runs (T_X5_costOfCopy ex) (0, [.ref p], [], w) = some (some (.int (w.1 p 10)), w) := by
  rcases hp with rfl | rfl
  · exact (runs_stps (q' := (4, [.ref 20], [.int (w.1 20 10)], w)) 2 rfl).trans <|
    runs_ret rfl
  · exact (runs_stps (q' := (4, [.ref 27], [.int (w.1 27 10)], w)) 2 rfl).trans <|
    runs_ret rfl
theorem p_X5_humsFrom_0_R {ex : Ex} {p : Nat} {w : Wd} (hp : scp p) : runs (T_X5_humsFrom ex) (0, [.ref p], [], w) = some (some (.int (w.1 p 11)), w) := by
  rcases hp with rfl | rfl
  · exact (runs_stps (q' := (4, [.ref 20], [.int (w.1 20 11)], w)) 2 rfl).trans <|
    runs_ret rfl
  · exact (runs_stps (q' := (4, [.ref 27], [.int (w.1 27 11)], w)) 2 rfl).trans <|
    runs_ret rfl
theorem p_X5_isSpell_0T_R {ex : Ex} {p : Nat} {x1 : Int32} {w : Wd} (hp : scp p) (h1 : x1 < 0) : runs (T_X5_isSpell ex) (0, [.ref p, .int x1], [], w) = some (some (.int 0), w) := by
  rcases hp with rfl | rfl
  · exact (runs_stps (q' := (1, [.ref 20, .int x1], [.int x1], w)) 1 rfl).trans <|
    (runs_if_t (a := 16) (b := 4) (L := [.ref 20, .int x1]) (st := []) (w := w) rfl h1).trans <|
    (runs_stps (q' := (17, [.null, .null], [.int 0], w)) 1 rfl).trans <|
    runs_ret rfl
  · exact (runs_stps (q' := (1, [.ref 27, .int x1], [.int x1], w)) 1 rfl).trans <|
    (runs_if_t (a := 16) (b := 4) (L := [.ref 27, .int x1]) (st := []) (w := w) rfl h1).trans <|
    (runs_stps (q' := (17, [.null, .null], [.int 0], w)) 1 rfl).trans <|
    runs_ret rfl
theorem p_X5_isSpell_0FT_R {ex : Ex} {p : Nat} {x1 : Int32} {w : Wd} (hp : scp p) (h1 : ¬ x1 < 0) (h2 : (w.1 p 6) ≤ x1) : runs (T_X5_isSpell ex) (0, [.ref p, .int x1], [], w) = some (some (.int 0), w) := by
  rcases hp with rfl | rfl
  · exact (runs_stps (q' := (1, [.ref 20, .int x1], [.int x1], w)) 1 rfl).trans <|
    (runs_if_f (a := 16) (b := 4) (L := [.ref 20, .int x1]) (st := []) (w := w) rfl h1).trans <|
    (runs_stps (q' := (9, [.ref 20, .int x1], [.int (w.1 20 6), .int x1], w)) 3 rfl).trans <|
    (runs_if_t (a := 16) (b := 12) (L := [.ref 20, .int x1]) (st := []) (w := w) rfl h2).trans <|
    (runs_stps (q' := (17, [.null, .null], [.int 0], w)) 1 rfl).trans <|
    runs_ret rfl
  · exact (runs_stps (q' := (1, [.ref 27, .int x1], [.int x1], w)) 1 rfl).trans <|
    (runs_if_f (a := 16) (b := 4) (L := [.ref 27, .int x1]) (st := []) (w := w) rfl h1).trans <|
    (runs_stps (q' := (9, [.ref 27, .int x1], [.int (w.1 27 6), .int x1], w)) 3 rfl).trans <|
    (runs_if_t (a := 16) (b := 12) (L := [.ref 27, .int x1]) (st := []) (w := w) rfl h2).trans <|
    (runs_stps (q' := (17, [.null, .null], [.int 0], w)) 1 rfl).trans <|
    runs_ret rfl
theorem p_X5_isSpell_0FF_R {ex : Ex} {p : Nat} {x1 : Int32} {w : Wd} (hp : scp p) (h1 : ¬ x1 < 0) (h2 : ¬ (w.1 p 6) ≤ x1) : runs (T_X5_isSpell ex) (0, [.ref p, .int x1], [], w) = some (some (.int 1), w) := by
  rcases hp with rfl | rfl
  · exact (runs_stps (q' := (1, [.ref 20, .int x1], [.int x1], w)) 1 rfl).trans <|
    (runs_if_f (a := 16) (b := 4) (L := [.ref 20, .int x1]) (st := []) (w := w) rfl h1).trans <|
    (runs_stps (q' := (9, [.ref 20, .int x1], [.int (w.1 20 6), .int x1], w)) 3 rfl).trans <|
    (runs_if_f (a := 16) (b := 12) (L := [.ref 20, .int x1]) (st := []) (w := w) rfl h2).trans <|
    (runs_stps (q' := (17, [.ref 20, .int x1], [.int 1], w)) 2 rfl).trans <|
    runs_ret rfl
  · exact (runs_stps (q' := (1, [.ref 27, .int x1], [.int x1], w)) 1 rfl).trans <|
    (runs_if_f (a := 16) (b := 4) (L := [.ref 27, .int x1]) (st := []) (w := w) rfl h1).trans <|
    (runs_stps (q' := (9, [.ref 27, .int x1], [.int (w.1 27 6), .int x1], w)) 3 rfl).trans <|
    (runs_if_f (a := 16) (b := 12) (L := [.ref 27, .int x1]) (st := []) (w := w) rfl h2).trans <|
    (runs_stps (q' := (17, [.ref 27, .int x1], [.int 1], w)) 2 rfl).trans <|
    runs_ret rfl
theorem p_X5_isThing_0T_R {ex : Ex} {p : Nat} {x1 : Int32} {w : Wd} (hp : scp p) (h1 : x1 < 0) : runs (T_X5_isThing ex) (0, [.ref p, .int x1], [], w) = some (some (.int 0), w) := by
  rcases hp with rfl | rfl
  · exact (runs_stps (q' := (1, [.ref 20, .int x1], [.int x1], w)) 1 rfl).trans <|
    (runs_if_t (a := 16) (b := 4) (L := [.ref 20, .int x1]) (st := []) (w := w) rfl h1).trans <|
    (runs_stps (q' := (17, [.null, .null], [.int 0], w)) 1 rfl).trans <|
    runs_ret rfl
  · exact (runs_stps (q' := (1, [.ref 27, .int x1], [.int x1], w)) 1 rfl).trans <|
    (runs_if_t (a := 16) (b := 4) (L := [.ref 27, .int x1]) (st := []) (w := w) rfl h1).trans <|
    (runs_stps (q' := (17, [.null, .null], [.int 0], w)) 1 rfl).trans <|
    runs_ret rfl
theorem p_X5_isThing_0FT_R {ex : Ex} {p : Nat} {x1 : Int32} {w : Wd} (hp : scp p) (h1 : ¬ x1 < 0) (h2 : (w.1 p 7) ≤ x1) : runs (T_X5_isThing ex) (0, [.ref p, .int x1], [], w) = some (some (.int 0), w) := by
  rcases hp with rfl | rfl
  · exact (runs_stps (q' := (1, [.ref 20, .int x1], [.int x1], w)) 1 rfl).trans <|
    (runs_if_f (a := 16) (b := 4) (L := [.ref 20, .int x1]) (st := []) (w := w) rfl h1).trans <|
    (runs_stps (q' := (9, [.ref 20, .int x1], [.int (w.1 20 7), .int x1], w)) 3 rfl).trans <|
    (runs_if_t (a := 16) (b := 12) (L := [.ref 20, .int x1]) (st := []) (w := w) rfl h2).trans <|
    (runs_stps (q' := (17, [.null, .null], [.int 0], w)) 1 rfl).trans <|
    runs_ret rfl
  · exact (runs_stps (q' := (1, [.ref 27, .int x1], [.int x1], w)) 1 rfl).trans <|
    (runs_if_f (a := 16) (b := 4) (L := [.ref 27, .int x1]) (st := []) (w := w) rfl h1).trans <|
    (runs_stps (q' := (9, [.ref 27, .int x1], [.int (w.1 27 7), .int x1], w)) 3 rfl).trans <|
    (runs_if_t (a := 16) (b := 12) (L := [.ref 27, .int x1]) (st := []) (w := w) rfl h2).trans <|
    (runs_stps (q' := (17, [.null, .null], [.int 0], w)) 1 rfl).trans <|
    runs_ret rfl
theorem p_X5_isThing_0FF_R {ex : Ex} {p : Nat} {x1 : Int32} {w : Wd} (hp : scp p) (h1 : ¬ x1 < 0) (h2 : ¬ (w.1 p 7) ≤ x1) : runs (T_X5_isThing ex) (0, [.ref p, .int x1], [], w) = some (some (.int 1), w) := by
  rcases hp with rfl | rfl
  · exact (runs_stps (q' := (1, [.ref 20, .int x1], [.int x1], w)) 1 rfl).trans <|
    (runs_if_f (a := 16) (b := 4) (L := [.ref 20, .int x1]) (st := []) (w := w) rfl h1).trans <|
    (runs_stps (q' := (9, [.ref 20, .int x1], [.int (w.1 20 7), .int x1], w)) 3 rfl).trans <|
    (runs_if_f (a := 16) (b := 12) (L := [.ref 20, .int x1]) (st := []) (w := w) rfl h2).trans <|
    (runs_stps (q' := (17, [.ref 20, .int x1], [.int 1], w)) 2 rfl).trans <|
    runs_ret rfl
  · exact (runs_stps (q' := (1, [.ref 27, .int x1], [.int x1], w)) 1 rfl).trans <|
    (runs_if_f (a := 16) (b := 4) (L := [.ref 27, .int x1]) (st := []) (w := w) rfl h1).trans <|
    (runs_stps (q' := (9, [.ref 27, .int x1], [.int (w.1 27 7), .int x1], w)) 3 rfl).trans <|
    (runs_if_f (a := 16) (b := 12) (L := [.ref 27, .int x1]) (st := []) (w := w) rfl h2).trans <|
    (runs_stps (q' := (17, [.ref 27, .int x1], [.int 1], w)) 2 rfl).trans <|
    runs_ret rfl
theorem p_X5_isPupil_0T_R {ex : Ex} {p : Nat} {x1 : Int32} {w : Wd} (hp : scp p) (h1 : x1 < 0) : runs (T_X5_isPupil ex) (0, [.ref p, .int x1], [], w) = some (some (.int 0), w) := by
  rcases hp with rfl | rfl
  · exact (runs_stps (q' := (1, [.ref 20, .int x1], [.int x1], w)) 1 rfl).trans <|
    (runs_if_t (a := 16) (b := 4) (L := [.ref 20, .int x1]) (st := []) (w := w) rfl h1).trans <|
    (runs_stps (q' := (17, [.null, .null], [.int 0], w)) 1 rfl).trans <|
    runs_ret rfl
  · exact (runs_stps (q' := (1, [.ref 27, .int x1], [.int x1], w)) 1 rfl).trans <|
    (runs_if_t (a := 16) (b := 4) (L := [.ref 27, .int x1]) (st := []) (w := w) rfl h1).trans <|
    (runs_stps (q' := (17, [.null, .null], [.int 0], w)) 1 rfl).trans <|
    runs_ret rfl
theorem p_X5_isPupil_0FT_R {ex : Ex} {p : Nat} {x1 : Int32} {w : Wd} (hp : scp p) (h1 : ¬ x1 < 0) (h2 : (w.1 p 8) ≤ x1) : runs (T_X5_isPupil ex) (0, [.ref p, .int x1], [], w) = some (some (.int 0), w) := by
  rcases hp with rfl | rfl
  · exact (runs_stps (q' := (1, [.ref 20, .int x1], [.int x1], w)) 1 rfl).trans <|
    (runs_if_f (a := 16) (b := 4) (L := [.ref 20, .int x1]) (st := []) (w := w) rfl h1).trans <|
    (runs_stps (q' := (9, [.ref 20, .int x1], [.int (w.1 20 8), .int x1], w)) 3 rfl).trans <|
    (runs_if_t (a := 16) (b := 12) (L := [.ref 20, .int x1]) (st := []) (w := w) rfl h2).trans <|
    (runs_stps (q' := (17, [.null, .null], [.int 0], w)) 1 rfl).trans <|
    runs_ret rfl
  · exact (runs_stps (q' := (1, [.ref 27, .int x1], [.int x1], w)) 1 rfl).trans <|
    (runs_if_f (a := 16) (b := 4) (L := [.ref 27, .int x1]) (st := []) (w := w) rfl h1).trans <|
    (runs_stps (q' := (9, [.ref 27, .int x1], [.int (w.1 27 8), .int x1], w)) 3 rfl).trans <|
    (runs_if_t (a := 16) (b := 12) (L := [.ref 27, .int x1]) (st := []) (w := w) rfl h2).trans <|
    (runs_stps (q' := (17, [.null, .null], [.int 0], w)) 1 rfl).trans <|
    runs_ret rfl
theorem p_X5_isPupil_0FF_R {ex : Ex} {p : Nat} {x1 : Int32} {w : Wd} (hp : scp p) (h1 : ¬ x1 < 0) (h2 : ¬ (w.1 p 8) ≤ x1) : runs (T_X5_isPupil ex) (0, [.ref p, .int x1], [], w) = some (some (.int 1), w) := by
  rcases hp with rfl | rfl
  · exact (runs_stps (q' := (1, [.ref 20, .int x1], [.int x1], w)) 1 rfl).trans <|
    (runs_if_f (a := 16) (b := 4) (L := [.ref 20, .int x1]) (st := []) (w := w) rfl h1).trans <|
    (runs_stps (q' := (9, [.ref 20, .int x1], [.int (w.1 20 8), .int x1], w)) 3 rfl).trans <|
    (runs_if_f (a := 16) (b := 12) (L := [.ref 20, .int x1]) (st := []) (w := w) rfl h2).trans <|
    (runs_stps (q' := (17, [.ref 20, .int x1], [.int 1], w)) 2 rfl).trans <|
    runs_ret rfl
  · exact (runs_stps (q' := (1, [.ref 27, .int x1], [.int x1], w)) 1 rfl).trans <|
    (runs_if_f (a := 16) (b := 4) (L := [.ref 27, .int x1]) (st := []) (w := w) rfl h1).trans <|
    (runs_stps (q' := (9, [.ref 27, .int x1], [.int (w.1 27 8), .int x1], w)) 3 rfl).trans <|
    (runs_if_f (a := 16) (b := 12) (L := [.ref 27, .int x1]) (st := []) (w := w) rfl h2).trans <|
    (runs_stps (q' := (17, [.ref 27, .int x1], [.int 1], w)) 2 rfl).trans <|
    runs_ret rfl
theorem p_X5_isPupilSet_0T_R {ex : Ex} {p : Nat} {x1 : Int32} {w : Wd} (hp : scp p) (h1 : x1 < 0) : runs (T_X5_isPupilSet ex) (0, [.ref p, .int x1], [], w) = some (some (.int 0), w) := by
  rcases hp with rfl | rfl
  · exact (runs_stps (q' := (1, [.ref 20, .int x1], [.int x1], w)) 1 rfl).trans <|
    (runs_if_t (a := 18) (b := 4) (L := [.ref 20, .int x1]) (st := []) (w := w) rfl h1).trans <|
    (runs_stps (q' := (19, [.null, .null], [.int 0], w)) 1 rfl).trans <|
    runs_ret rfl
  · exact (runs_stps (q' := (1, [.ref 27, .int x1], [.int x1], w)) 1 rfl).trans <|
    (runs_if_t (a := 18) (b := 4) (L := [.ref 27, .int x1]) (st := []) (w := w) rfl h1).trans <|
    (runs_stps (q' := (19, [.null, .null], [.int 0], w)) 1 rfl).trans <|
    runs_ret rfl
theorem p_X5_isPupilSet_0FT_R {ex : Ex} {p : Nat} {x1 : Int32} {w : Wd} (hp : scp p) (h1 : ¬ x1 < 0) (h2 : (1 <<< ((w.1 p 8) &&& 31)) ≤ x1) : runs (T_X5_isPupilSet ex) (0, [.ref p, .int x1], [], w) = some (some (.int 0), w) := by
  rcases hp with rfl | rfl
  · exact (runs_stps (q' := (1, [.ref 20, .int x1], [.int x1], w)) 1 rfl).trans <|
    (runs_if_f (a := 18) (b := 4) (L := [.ref 20, .int x1]) (st := []) (w := w) rfl h1).trans <|
    (runs_stps (q' := (11, [.ref 20, .int x1], [.int (1 <<< ((w.1 20 8) &&& 31)), .int x1], w)) 5 rfl).trans <|
    (runs_if_t (a := 18) (b := 14) (L := [.ref 20, .int x1]) (st := []) (w := w) rfl h2).trans <|
    (runs_stps (q' := (19, [.null, .null], [.int 0], w)) 1 rfl).trans <|
    runs_ret rfl
  · exact (runs_stps (q' := (1, [.ref 27, .int x1], [.int x1], w)) 1 rfl).trans <|
    (runs_if_f (a := 18) (b := 4) (L := [.ref 27, .int x1]) (st := []) (w := w) rfl h1).trans <|
    (runs_stps (q' := (11, [.ref 27, .int x1], [.int (1 <<< ((w.1 27 8) &&& 31)), .int x1], w)) 5 rfl).trans <|
    (runs_if_t (a := 18) (b := 14) (L := [.ref 27, .int x1]) (st := []) (w := w) rfl h2).trans <|
    (runs_stps (q' := (19, [.null, .null], [.int 0], w)) 1 rfl).trans <|
    runs_ret rfl
theorem p_X5_isPupilSet_0FF_R {ex : Ex} {p : Nat} {x1 : Int32} {w : Wd} (hp : scp p) (h1 : ¬ x1 < 0) (h2 : ¬ (1 <<< ((w.1 p 8) &&& 31)) ≤ x1) : runs (T_X5_isPupilSet ex) (0, [.ref p, .int x1], [], w) = some (some (.int 1), w) := by
  rcases hp with rfl | rfl
  · exact (runs_stps (q' := (1, [.ref 20, .int x1], [.int x1], w)) 1 rfl).trans <|
    (runs_if_f (a := 18) (b := 4) (L := [.ref 20, .int x1]) (st := []) (w := w) rfl h1).trans <|
    (runs_stps (q' := (11, [.ref 20, .int x1], [.int (1 <<< ((w.1 20 8) &&& 31)), .int x1], w)) 5 rfl).trans <|
    (runs_if_f (a := 18) (b := 14) (L := [.ref 20, .int x1]) (st := []) (w := w) rfl h2).trans <|
    (runs_stps (q' := (19, [.ref 20, .int x1], [.int 1], w)) 2 rfl).trans <|
    runs_ret rfl
  · exact (runs_stps (q' := (1, [.ref 27, .int x1], [.int x1], w)) 1 rfl).trans <|
    (runs_if_f (a := 18) (b := 4) (L := [.ref 27, .int x1]) (st := []) (w := w) rfl h1).trans <|
    (runs_stps (q' := (11, [.ref 27, .int x1], [.int (1 <<< ((w.1 27 8) &&& 31)), .int x1], w)) 5 rfl).trans <|
    (runs_if_f (a := 18) (b := 14) (L := [.ref 27, .int x1]) (st := []) (w := w) rfl h2).trans <|
    (runs_stps (q' := (19, [.ref 27, .int x1], [.int 1], w)) 2 rfl).trans <|
    runs_ret rfl
theorem p_X5_effectOf_0_R {ex : Ex} {p : Nat} {x1 : Int32} {r1 : Int32} {w1 : Wd} {w : Wd} (hp : scp p) (h1 : ex 133 [.ref (p + 1), .int x1] w = some (some (.int r1), w1)) : runs (T_X5_effectOf ex) (0, [.ref p, .int x1], [], w) = some (some (.int r1), w1) := by
  rcases hp with rfl | rfl
  · exact (runs_stps (q' := (5, [.ref 20, .int x1], [.int x1, .ref (20 + 1)], w)) 3 rfl).trans <|
    (runs_callS (rv := some (.int r1)) (w' := w1) rfl rfl rfl h1).trans <|
    runs_ret rfl
  · exact (runs_stps (q' := (5, [.ref 27, .int x1], [.int x1, .ref (27 + 1)], w)) 3 rfl).trans <|
    (runs_callS (rv := some (.int r1)) (w' := w1) rfl rfl rfl h1).trans <|
    runs_ret rfl
theorem p_X5_isGlass_0T_R {ex : Ex} {p : Nat} {x1 : Int32} {r1 : Int32} {w1 : Wd} {w : Wd} (hp : scp p) (h1 : ex 133 [.ref (p + 2), .int x1] w = some (some (.int r1), w1)) (h2 : ¬ r1 = 1) : runs (T_X5_isGlass ex) (0, [.ref p, .int x1], [], w) = some (some (.int 0), w1) := by
  rcases hp with rfl | rfl
  · exact (runs_stps (q' := (5, [.ref 20, .int x1], [.int x1, .ref (20 + 2)], w)) 3 rfl).trans <|
    (runs_callS (rv := some (.int r1)) (w' := w1) rfl rfl rfl h1).trans <|
    (runs_stps (q' := (9, [.ref 20, .int x1], [.int 1, .int r1], w1)) 1 rfl).trans <|
    (runs_if_f (a := 12) (b := 16) (L := [.ref 20, .int x1]) (st := []) (w := w1) rfl h2).trans <|
    (runs_stps (q' := (17, [.null, .null], [.int 0], w1)) 1 rfl).trans <|
    runs_ret rfl
  · exact (runs_stps (q' := (5, [.ref 27, .int x1], [.int x1, .ref (27 + 2)], w)) 3 rfl).trans <|
    (runs_callS (rv := some (.int r1)) (w' := w1) rfl rfl rfl h1).trans <|
    (runs_stps (q' := (9, [.ref 27, .int x1], [.int 1, .int r1], w1)) 1 rfl).trans <|
    (runs_if_f (a := 12) (b := 16) (L := [.ref 27, .int x1]) (st := []) (w := w1) rfl h2).trans <|
    (runs_stps (q' := (17, [.null, .null], [.int 0], w1)) 1 rfl).trans <|
    runs_ret rfl
theorem p_X5_isGlass_0F_R {ex : Ex} {p : Nat} {x1 : Int32} {r1 : Int32} {w1 : Wd} {w : Wd} (hp : scp p) (h1 : ex 133 [.ref (p + 2), .int x1] w = some (some (.int r1), w1)) (h2 : r1 = 1) : runs (T_X5_isGlass ex) (0, [.ref p, .int x1], [], w) = some (some (.int 1), w1) := by
  rcases hp with rfl | rfl
  · exact (runs_stps (q' := (5, [.ref 20, .int x1], [.int x1, .ref (20 + 2)], w)) 3 rfl).trans <|
    (runs_callS (rv := some (.int r1)) (w' := w1) rfl rfl rfl h1).trans <|
    (runs_stps (q' := (9, [.ref 20, .int x1], [.int 1, .int r1], w1)) 1 rfl).trans <|
    (runs_if_t (a := 12) (b := 16) (L := [.ref 20, .int x1]) (st := []) (w := w1) rfl h2).trans <|
    (runs_stps (q' := (17, [.ref 20, .int x1], [.int 1], w1)) 2 rfl).trans <|
    runs_ret rfl
  · exact (runs_stps (q' := (5, [.ref 27, .int x1], [.int x1, .ref (27 + 2)], w)) 3 rfl).trans <|
    (runs_callS (rv := some (.int r1)) (w' := w1) rfl rfl rfl h1).trans <|
    (runs_stps (q' := (9, [.ref 27, .int x1], [.int 1, .int r1], w1)) 1 rfl).trans <|
    (runs_if_t (a := 12) (b := 16) (L := [.ref 27, .int x1]) (st := []) (w := w1) rfl h2).trans <|
    (runs_stps (q' := (17, [.ref 27, .int x1], [.int 1], w1)) 2 rfl).trans <|
    runs_ret rfl
theorem p_X5_layCost_0_R {ex : Ex} {p : Nat} {x1 : Int32} {r1 : Int32} {w1 : Wd} {w : Wd} (hp : scp p) (h1 : ex 133 [.ref (p + 3), .int x1] w = some (some (.int r1), w1)) : runs (T_X5_layCost ex) (0, [.ref p, .int x1], [], w) = some (some (.int r1), w1) := by
  rcases hp with rfl | rfl
  · exact (runs_stps (q' := (5, [.ref 20, .int x1], [.int x1, .ref (20 + 3)], w)) 3 rfl).trans <|
    (runs_callS (rv := some (.int r1)) (w' := w1) rfl rfl rfl h1).trans <|
    runs_ret rfl
  · exact (runs_stps (q' := (5, [.ref 27, .int x1], [.int x1, .ref (27 + 3)], w)) 3 rfl).trans <|
    (runs_callS (rv := some (.int r1)) (w' := w1) rfl rfl rfl h1).trans <|
    runs_ret rfl
theorem p_X5_liftCost_0_R {ex : Ex} {p : Nat} {x1 : Int32} {r1 : Int32} {w1 : Wd} {w : Wd} (hp : scp p) (h1 : ex 133 [.ref (p + 4), .int x1] w = some (some (.int r1), w1)) : runs (T_X5_liftCost ex) (0, [.ref p, .int x1], [], w) = some (some (.int r1), w1) := by
  rcases hp with rfl | rfl
  · exact (runs_stps (q' := (5, [.ref 20, .int x1], [.int x1, .ref (20 + 4)], w)) 3 rfl).trans <|
    (runs_callS (rv := some (.int r1)) (w' := w1) rfl rfl rfl h1).trans <|
    runs_ret rfl
  · exact (runs_stps (q' := (5, [.ref 27, .int x1], [.int x1, .ref (27 + 4)], w)) 3 rfl).trans <|
    (runs_callS (rv := some (.int r1)) (w' := w1) rfl rfl rfl h1).trans <|
    runs_ret rfl
theorem p_X5_firstRow_0_R {ex : Ex} {p : Nat} {x1 : Int32} {r1 : Int32} {w1 : Wd} {w : Wd} (hp : scp p) (h1 : ex 133 [.ref (p + 5), .int x1] w = some (some (.int r1), w1)) : runs (T_X5_firstRow ex) (0, [.ref p, .int x1], [], w) = some (some (.int r1), w1) := by
  rcases hp with rfl | rfl
  · exact (runs_stps (q' := (5, [.ref 20, .int x1], [.int x1, .ref (20 + 5)], w)) 3 rfl).trans <|
    (runs_callS (rv := some (.int r1)) (w' := w1) rfl rfl rfl h1).trans <|
    runs_ret rfl
  · exact (runs_stps (q' := (5, [.ref 27, .int x1], [.int x1, .ref (27 + 5)], w)) 3 rfl).trans <|
    (runs_callS (rv := some (.int r1)) (w' := w1) rfl rfl rfl h1).trans <|
    runs_ret rfl
theorem p_X5_spellsOfPupil_0_R {ex : Ex} {p : Nat} {x1 : Int32} {r1 : Int32} {w1 : Wd} {w : Wd} (hp : scp p) (h1 : ex 133 [.ref (p + 6), .int x1] w = some (some (.int r1), w1)) : runs (T_X5_spellsOfPupil ex) (0, [.ref p, .int x1], [], w) = some (some (.int r1), w1) := by
  rcases hp with rfl | rfl
  · exact (runs_stps (q' := (5, [.ref 20, .int x1], [.int x1, .ref (20 + 6)], w)) 3 rfl).trans <|
    (runs_callS (rv := some (.int r1)) (w' := w1) rfl rfl rfl h1).trans <|
    runs_ret rfl
  · exact (runs_stps (q' := (5, [.ref 27, .int x1], [.int x1, .ref (27 + 6)], w)) 3 rfl).trans <|
    (runs_callS (rv := some (.int r1)) (w' := w1) rfl rfl rfl h1).trans <|
    runs_ret rfl
theorem p_X5_spellsOfSet_0_L4 {ex : Ex} {p : Nat} {x1 : Int32} {w : Wd} (hp : scp p) : runs (T_X5_spellsOfSet ex) (0, [.ref p, .int x1, .null, .null], [], w) = runs (T_X5_spellsOfSet ex) (4, [.ref p, .int x1, .int 0, .int 0], [], w) := by
  rcases hp with rfl | rfl
  · exact (runs_stps (q' := (4, [.ref 20, .int x1, .int 0, .int 0], [], w)) 4 rfl).trans <|
    rfl
  · exact (runs_stps (q' := (4, [.ref 27, .int x1, .int 0, .int 0], [], w)) 4 rfl).trans <|
    rfl
theorem p_X5_spellsOfSet_4T_R {ex : Ex} {p : Nat} {x1 : Int32} {x2 : Int32} {x3 : Int32} {w : Wd} (hp : scp p) (h1 : (w.1 p 8) ≤ x3) : runs (T_X5_spellsOfSet ex) (4, [.ref p, .int x1, .int x2, .int x3], [], w) = some (some (.int x2), w) := by
  rcases hp with rfl | rfl
  · exact (runs_stps (q' := (9, [.ref 20, .int x1, .int x2, .int x3], [.int (w.1 20 8), .int x3], w)) 3 rfl).trans <|
    (runs_if_t (a := 35) (b := 12) (L := [.ref 20, .int x1, .int x2, .int x3]) (st := []) (w := w) rfl h1).trans <|
    (runs_stps (q' := (36, [.null, .null, .int x2, .null], [.int x2], w)) 1 rfl).trans <|
    runs_ret rfl
  · exact (runs_stps (q' := (9, [.ref 27, .int x1, .int x2, .int x3], [.int (w.1 27 8), .int x3], w)) 3 rfl).trans <|
    (runs_if_t (a := 35) (b := 12) (L := [.ref 27, .int x1, .int x2, .int x3]) (st := []) (w := w) rfl h1).trans <|
    (runs_stps (q' := (36, [.null, .null, .int x2, .null], [.int x2], w)) 1 rfl).trans <|
    runs_ret rfl
theorem p_X5_spellsOfSet_4FT_L4 {ex : Ex} {p : Nat} {x1 : Int32} {x2 : Int32} {x3 : Int32} {w : Wd} (hp : scp p) (h1 : ¬ (w.1 p 8) ≤ x3) (h2 : ¬ ((x1 >>> (x3 &&& 31)) &&& 1) = 1) : runs (T_X5_spellsOfSet ex) (4, [.ref p, .int x1, .int x2, .int x3], [], w) = runs (T_X5_spellsOfSet ex) (4, [.ref p, .int x1, .int x2, .int (x3 + 1)], [], w) := by
  rcases hp with rfl | rfl
  · exact (runs_stps (q' := (9, [.ref 20, .int x1, .int x2, .int x3], [.int (w.1 20 8), .int x3], w)) 3 rfl).trans <|
    (runs_if_f (a := 35) (b := 12) (L := [.ref 20, .int x1, .int x2, .int x3]) (st := []) (w := w) rfl h1).trans <|
    (runs_stps (q' := (18, [.ref 20, .int x1, .int x2, .int x3], [.int 1, .int ((x1 >>> (x3 &&& 31)) &&& 1)], w)) 6 rfl).trans <|
    (runs_if_f (a := 21) (b := 29) (L := [.ref 20, .int x1, .int x2, .int x3]) (st := []) (w := w) rfl h2).trans <|
    (runs_stps (q' := (4, [.ref 20, .int x1, .int x2, .int (x3 + 1)], [], w)) 2 rfl).trans <|
    rfl
  · exact (runs_stps (q' := (9, [.ref 27, .int x1, .int x2, .int x3], [.int (w.1 27 8), .int x3], w)) 3 rfl).trans <|
    (runs_if_f (a := 35) (b := 12) (L := [.ref 27, .int x1, .int x2, .int x3]) (st := []) (w := w) rfl h1).trans <|
    (runs_stps (q' := (18, [.ref 27, .int x1, .int x2, .int x3], [.int 1, .int ((x1 >>> (x3 &&& 31)) &&& 1)], w)) 6 rfl).trans <|
    (runs_if_f (a := 21) (b := 29) (L := [.ref 27, .int x1, .int x2, .int x3]) (st := []) (w := w) rfl h2).trans <|
    (runs_stps (q' := (4, [.ref 27, .int x1, .int x2, .int (x3 + 1)], [], w)) 2 rfl).trans <|
    rfl
theorem p_X5_spellsOfSet_4FF_L4 {ex : Ex} {p : Nat} {x1 : Int32} {x2 : Int32} {x3 : Int32} {r1 : Int32} {w1 : Wd} {w : Wd} (hp : scp p) (h1 : ¬ (w.1 p 8) ≤ x3) (h2 : ((x1 >>> (x3 &&& 31)) &&& 1) = 1) (h3 : ex 68 [.ref p, .int x3] w = some (some (.int r1), w1)) : runs (T_X5_spellsOfSet ex) (4, [.ref p, .int x1, .int x2, .int x3], [], w) = runs (T_X5_spellsOfSet ex) (4, [.ref p, .int x1, .int (x2 ||| r1), .int (x3 + 1)], [], w1) := by
  rcases hp with rfl | rfl
  · exact (runs_stps (q' := (9, [.ref 20, .int x1, .int x2, .int x3], [.int (w.1 20 8), .int x3], w)) 3 rfl).trans <|
    (runs_if_f (a := 35) (b := 12) (L := [.ref 20, .int x1, .int x2, .int x3]) (st := []) (w := w) rfl h1).trans <|
    (runs_stps (q' := (18, [.ref 20, .int x1, .int x2, .int x3], [.int 1, .int ((x1 >>> (x3 &&& 31)) &&& 1)], w)) 6 rfl).trans <|
    (runs_if_t (a := 21) (b := 29) (L := [.ref 20, .int x1, .int x2, .int x3]) (st := []) (w := w) rfl h2).trans <|
    (runs_stps (q' := (24, [.ref 20, .int x1, .int x2, .int x3], [.int x3, .ref 20, .int x2], w)) 3 rfl).trans <|
    (runs_callV (rv := some (.int r1)) (w' := w1) rfl rfl rfl rfl h3).trans <|
    (runs_stps (q' := (4, [.ref 20, .int x1, .int (x2 ||| r1), .int (x3 + 1)], [], w1)) 4 rfl).trans <|
    rfl
  · exact (runs_stps (q' := (9, [.ref 27, .int x1, .int x2, .int x3], [.int (w.1 27 8), .int x3], w)) 3 rfl).trans <|
    (runs_if_f (a := 35) (b := 12) (L := [.ref 27, .int x1, .int x2, .int x3]) (st := []) (w := w) rfl h1).trans <|
    (runs_stps (q' := (18, [.ref 27, .int x1, .int x2, .int x3], [.int 1, .int ((x1 >>> (x3 &&& 31)) &&& 1)], w)) 6 rfl).trans <|
    (runs_if_t (a := 21) (b := 29) (L := [.ref 27, .int x1, .int x2, .int x3]) (st := []) (w := w) rfl h2).trans <|
    (runs_stps (q' := (24, [.ref 27, .int x1, .int x2, .int x3], [.int x3, .ref 27, .int x2], w)) 3 rfl).trans <|
    (runs_callV (rv := some (.int r1)) (w' := w1) rfl rfl rfl rfl h3).trans <|
    (runs_stps (q' := (4, [.ref 27, .int x1, .int (x2 ||| r1), .int (x3 + 1)], [], w1)) 4 rfl).trans <|
    rfl
theorem p_X5_sayersOf_0_L4 {ex : Ex} {p : Nat} {x1 : Int32} {w : Wd} (hp : scp p) : runs (T_X5_sayersOf ex) (0, [.ref p, .int x1, .null, .null], [], w) = runs (T_X5_sayersOf ex) (4, [.ref p, .int x1, .int 0, .int 0], [], w) := by
  rcases hp with rfl | rfl
  · exact (runs_stps (q' := (4, [.ref 20, .int x1, .int 0, .int 0], [], w)) 4 rfl).trans <|
    rfl
  · exact (runs_stps (q' := (4, [.ref 27, .int x1, .int 0, .int 0], [], w)) 4 rfl).trans <|
    rfl
theorem p_X5_sayersOf_4T_R {ex : Ex} {p : Nat} {x1 : Int32} {x2 : Int32} {x3 : Int32} {w : Wd} (hp : scp p) (h1 : (w.1 p 8) ≤ x3) : runs (T_X5_sayersOf ex) (4, [.ref p, .int x1, .int x2, .int x3], [], w) = some (some (.int x2), w) := by
  rcases hp with rfl | rfl
  · exact (runs_stps (q' := (9, [.ref 20, .int x1, .int x2, .int x3], [.int (w.1 20 8), .int x3], w)) 3 rfl).trans <|
    (runs_if_t (a := 30) (b := 12) (L := [.ref 20, .int x1, .int x2, .int x3]) (st := []) (w := w) rfl h1).trans <|
    (runs_stps (q' := (31, [.null, .null, .int x2, .null], [.int x2], w)) 1 rfl).trans <|
    runs_ret rfl
  · exact (runs_stps (q' := (9, [.ref 27, .int x1, .int x2, .int x3], [.int (w.1 27 8), .int x3], w)) 3 rfl).trans <|
    (runs_if_t (a := 30) (b := 12) (L := [.ref 27, .int x1, .int x2, .int x3]) (st := []) (w := w) rfl h1).trans <|
    (runs_stps (q' := (31, [.null, .null, .int x2, .null], [.int x2], w)) 1 rfl).trans <|
    runs_ret rfl
theorem p_X5_sayersOf_4F_L4 {ex : Ex} {p : Nat} {x1 : Int32} {x2 : Int32} {x3 : Int32} {r1 : Int32} {w1 : Wd} {w : Wd} (hp : scp p) (h1 : ¬ (w.1 p 8) ≤ x3) (h2 : ex 68 [.ref p, .int x3] w = some (some (.int r1), w1)) : runs (T_X5_sayersOf ex) (4, [.ref p, .int x1, .int x2, .int x3], [], w) = runs (T_X5_sayersOf ex) (4, [.ref p, .int x1, .int (x2 + ((r1 >>> (x1 &&& 31)) &&& 1)), .int (x3 + 1)], [], w1) := by
  rcases hp with rfl | rfl
  · exact (runs_stps (q' := (9, [.ref 20, .int x1, .int x2, .int x3], [.int (w.1 20 8), .int x3], w)) 3 rfl).trans <|
    (runs_if_f (a := 30) (b := 12) (L := [.ref 20, .int x1, .int x2, .int x3]) (st := []) (w := w) rfl h1).trans <|
    (runs_stps (q' := (15, [.ref 20, .int x1, .int x2, .int x3], [.int x3, .ref 20, .int x2], w)) 3 rfl).trans <|
    (runs_callV (rv := some (.int r1)) (w' := w1) rfl rfl rfl rfl h2).trans <|
    (runs_stps (q' := (4, [.ref 20, .int x1, .int (x2 + ((r1 >>> (x1 &&& 31)) &&& 1)), .int (x3 + 1)], [], w1)) 8 rfl).trans <|
    rfl
  · exact (runs_stps (q' := (9, [.ref 27, .int x1, .int x2, .int x3], [.int (w.1 27 8), .int x3], w)) 3 rfl).trans <|
    (runs_if_f (a := 30) (b := 12) (L := [.ref 27, .int x1, .int x2, .int x3]) (st := []) (w := w) rfl h1).trans <|
    (runs_stps (q' := (15, [.ref 27, .int x1, .int x2, .int x3], [.int x3, .ref 27, .int x2], w)) 3 rfl).trans <|
    (runs_callV (rv := some (.int r1)) (w' := w1) rfl rfl rfl rfl h2).trans <|
    (runs_stps (q' := (4, [.ref 27, .int x1, .int (x2 + ((r1 >>> (x1 &&& 31)) &&& 1)), .int (x3 + 1)], [], w1)) 8 rfl).trans <|
    rfl
theorem p_X5_maySay_0_R {ex : Ex} {p : Nat} {x1 : Int32} {x2 : Int32} {r1 : Int32} {w1 : Wd} {w : Wd} (hp : scp p) (h1 : ex 72 [.ref p, .int x1, .int (1 <<< (x2 &&& 31))] w = some (some (.int r1), w1)) (h2 : r1 = 0 ∨ r1 = 1) : runs (T_X5_maySay ex) (0, [.ref p, .int x1, .int x2], [], w) = some (some (.int r1), w1) := by
  rcases hp with rfl | rfl
  · exact (runs_stps (q' := (5, [.ref 20, .int x1, .int x2], [.int (1 <<< (x2 &&& 31)), .int x1, .ref 20], w)) 5 rfl).trans <|
    (runs_callV (rv := some (.int r1)) (w' := w1) rfl rfl rfl rfl h1).trans <|
    runs_rck rfl h2
  · exact (runs_stps (q' := (5, [.ref 27, .int x1, .int x2], [.int (1 <<< (x2 &&& 31)), .int x1, .ref 27], w)) 5 rfl).trans <|
    (runs_callV (rv := some (.int r1)) (w' := w1) rfl rfl rfl rfl h1).trans <|
    runs_rck rfl h2
theorem p_X5_mayOneSay_0_L2 {ex : Ex} {p : Nat} {x1 : Int32} {x2 : Int32} {w : Wd} (hp : scp p) : runs (T_X5_mayOneSay ex) (0, [.ref p, .int x1, .int x2, .null], [], w) = runs (T_X5_mayOneSay ex) (2, [.ref p, .int x1, .int x2, .int 0], [], w) := by
  rcases hp with rfl | rfl
  · exact (runs_stps (q' := (2, [.ref 20, .int x1, .int x2, .int 0], [], w)) 2 rfl).trans <|
    rfl
  · exact (runs_stps (q' := (2, [.ref 27, .int x1, .int x2, .int 0], [], w)) 2 rfl).trans <|
    rfl
theorem p_X5_mayOneSay_2T_R {ex : Ex} {p : Nat} {x1 : Int32} {x2 : Int32} {x3 : Int32} {w : Wd} (hp : scp p) (h1 : (w.1 p 8) ≤ x3) : runs (T_X5_mayOneSay ex) (2, [.ref p, .int x1, .int x2, .int x3], [], w) = some (some (.int 0), w) := by
  rcases hp with rfl | rfl
  · exact (runs_stps (q' := (7, [.ref 20, .int x1, .int x2, .int x3], [.int (w.1 20 8), .int x3], w)) 3 rfl).trans <|
    (runs_if_t (a := 41) (b := 10) (L := [.ref 20, .int x1, .int x2, .int x3]) (st := []) (w := w) rfl h1).trans <|
    (runs_stps (q' := (42, [.null, .null, .null, .null], [.int 0], w)) 1 rfl).trans <|
    runs_ret rfl
  · exact (runs_stps (q' := (7, [.ref 27, .int x1, .int x2, .int x3], [.int (w.1 27 8), .int x3], w)) 3 rfl).trans <|
    (runs_if_t (a := 41) (b := 10) (L := [.ref 27, .int x1, .int x2, .int x3]) (st := []) (w := w) rfl h1).trans <|
    (runs_stps (q' := (42, [.null, .null, .null, .null], [.int 0], w)) 1 rfl).trans <|
    runs_ret rfl
theorem p_X5_mayOneSay_2FT_L2 {ex : Ex} {p : Nat} {x1 : Int32} {x2 : Int32} {x3 : Int32} {w : Wd} (hp : scp p) (h1 : ¬ (w.1 p 8) ≤ x3) (h2 : ¬ ((x1 >>> (x3 &&& 31)) &&& 1) = 1) : runs (T_X5_mayOneSay ex) (2, [.ref p, .int x1, .int x2, .int x3], [], w) = runs (T_X5_mayOneSay ex) (2, [.ref p, .int x1, .int x2, .int (x3 + 1)], [], w) := by
  rcases hp with rfl | rfl
  · exact (runs_stps (q' := (7, [.ref 20, .int x1, .int x2, .int x3], [.int (w.1 20 8), .int x3], w)) 3 rfl).trans <|
    (runs_if_f (a := 41) (b := 10) (L := [.ref 20, .int x1, .int x2, .int x3]) (st := []) (w := w) rfl h1).trans <|
    (runs_stps (q' := (16, [.ref 20, .int x1, .int x2, .int x3], [.int 1, .int ((x1 >>> (x3 &&& 31)) &&& 1)], w)) 6 rfl).trans <|
    (runs_if_f (a := 19) (b := 35) (L := [.ref 20, .int x1, .int x2, .int x3]) (st := []) (w := w) rfl h2).trans <|
    (runs_stps (q' := (2, [.ref 20, .int x1, .int x2, .int (x3 + 1)], [], w)) 2 rfl).trans <|
    rfl
  · exact (runs_stps (q' := (7, [.ref 27, .int x1, .int x2, .int x3], [.int (w.1 27 8), .int x3], w)) 3 rfl).trans <|
    (runs_if_f (a := 41) (b := 10) (L := [.ref 27, .int x1, .int x2, .int x3]) (st := []) (w := w) rfl h1).trans <|
    (runs_stps (q' := (16, [.ref 27, .int x1, .int x2, .int x3], [.int 1, .int ((x1 >>> (x3 &&& 31)) &&& 1)], w)) 6 rfl).trans <|
    (runs_if_f (a := 19) (b := 35) (L := [.ref 27, .int x1, .int x2, .int x3]) (st := []) (w := w) rfl h2).trans <|
    (runs_stps (q' := (2, [.ref 27, .int x1, .int x2, .int (x3 + 1)], [], w)) 2 rfl).trans <|
    rfl
theorem p_X5_mayOneSay_2FFT_L2 {ex : Ex} {p : Nat} {x1 : Int32} {x2 : Int32} {x3 : Int32} {r1 : Int32} {w1 : Wd} {w : Wd} (hp : scp p) (h1 : ¬ (w.1 p 8) ≤ x3) (h2 : ((x1 >>> (x3 &&& 31)) &&& 1) = 1) (h3 : ex 133 [.ref (p + 6), .int x3] w = some (some (.int r1), w1)) (h4 : ¬ (r1 &&& x2) = x2) : runs (T_X5_mayOneSay ex) (2, [.ref p, .int x1, .int x2, .int x3], [], w) = runs (T_X5_mayOneSay ex) (2, [.ref p, .int x1, .int x2, .int (x3 + 1)], [], w1) := by
  rcases hp with rfl | rfl
  · exact (runs_stps (q' := (7, [.ref 20, .int x1, .int x2, .int x3], [.int (w.1 20 8), .int x3], w)) 3 rfl).trans <|
    (runs_if_f (a := 41) (b := 10) (L := [.ref 20, .int x1, .int x2, .int x3]) (st := []) (w := w) rfl h1).trans <|
    (runs_stps (q' := (16, [.ref 20, .int x1, .int x2, .int x3], [.int 1, .int ((x1 >>> (x3 &&& 31)) &&& 1)], w)) 6 rfl).trans <|
    (runs_if_t (a := 19) (b := 35) (L := [.ref 20, .int x1, .int x2, .int x3]) (st := []) (w := w) rfl h2).trans <|
    (runs_stps (q' := (24, [.ref 20, .int x1, .int x2, .int x3], [.int x3, .ref (20 + 6)], w)) 3 rfl).trans <|
    (runs_callS (rv := some (.int r1)) (w' := w1) rfl rfl rfl h3).trans <|
    (runs_stps (q' := (30, [.ref 20, .int x1, .int x2, .int x3], [.int x2, .int (r1 &&& x2)], w1)) 3 rfl).trans <|
    (runs_if_f (a := 33) (b := 35) (L := [.ref 20, .int x1, .int x2, .int x3]) (st := []) (w := w1) rfl h4).trans <|
    (runs_stps (q' := (2, [.ref 20, .int x1, .int x2, .int (x3 + 1)], [], w1)) 2 rfl).trans <|
    rfl
  · exact (runs_stps (q' := (7, [.ref 27, .int x1, .int x2, .int x3], [.int (w.1 27 8), .int x3], w)) 3 rfl).trans <|
    (runs_if_f (a := 41) (b := 10) (L := [.ref 27, .int x1, .int x2, .int x3]) (st := []) (w := w) rfl h1).trans <|
    (runs_stps (q' := (16, [.ref 27, .int x1, .int x2, .int x3], [.int 1, .int ((x1 >>> (x3 &&& 31)) &&& 1)], w)) 6 rfl).trans <|
    (runs_if_t (a := 19) (b := 35) (L := [.ref 27, .int x1, .int x2, .int x3]) (st := []) (w := w) rfl h2).trans <|
    (runs_stps (q' := (24, [.ref 27, .int x1, .int x2, .int x3], [.int x3, .ref (27 + 6)], w)) 3 rfl).trans <|
    (runs_callS (rv := some (.int r1)) (w' := w1) rfl rfl rfl h3).trans <|
    (runs_stps (q' := (30, [.ref 27, .int x1, .int x2, .int x3], [.int x2, .int (r1 &&& x2)], w1)) 3 rfl).trans <|
    (runs_if_f (a := 33) (b := 35) (L := [.ref 27, .int x1, .int x2, .int x3]) (st := []) (w := w1) rfl h4).trans <|
    (runs_stps (q' := (2, [.ref 27, .int x1, .int x2, .int (x3 + 1)], [], w1)) 2 rfl).trans <|
    rfl
theorem p_X5_mayOneSay_2FFF_R {ex : Ex} {p : Nat} {x1 : Int32} {x2 : Int32} {x3 : Int32} {r1 : Int32} {w1 : Wd} {w : Wd} (hp : scp p) (h1 : ¬ (w.1 p 8) ≤ x3) (h2 : ((x1 >>> (x3 &&& 31)) &&& 1) = 1) (h3 : ex 133 [.ref (p + 6), .int x3] w = some (some (.int r1), w1)) (h4 : (r1 &&& x2) = x2) : runs (T_X5_mayOneSay ex) (2, [.ref p, .int x1, .int x2, .int x3], [], w) = some (some (.int 1), w1) := by
  rcases hp with rfl | rfl
  · exact (runs_stps (q' := (7, [.ref 20, .int x1, .int x2, .int x3], [.int (w.1 20 8), .int x3], w)) 3 rfl).trans <|
    (runs_if_f (a := 41) (b := 10) (L := [.ref 20, .int x1, .int x2, .int x3]) (st := []) (w := w) rfl h1).trans <|
    (runs_stps (q' := (16, [.ref 20, .int x1, .int x2, .int x3], [.int 1, .int ((x1 >>> (x3 &&& 31)) &&& 1)], w)) 6 rfl).trans <|
    (runs_if_t (a := 19) (b := 35) (L := [.ref 20, .int x1, .int x2, .int x3]) (st := []) (w := w) rfl h2).trans <|
    (runs_stps (q' := (24, [.ref 20, .int x1, .int x2, .int x3], [.int x3, .ref (20 + 6)], w)) 3 rfl).trans <|
    (runs_callS (rv := some (.int r1)) (w' := w1) rfl rfl rfl h3).trans <|
    (runs_stps (q' := (30, [.ref 20, .int x1, .int x2, .int x3], [.int x2, .int (r1 &&& x2)], w1)) 3 rfl).trans <|
    (runs_if_t (a := 33) (b := 35) (L := [.ref 20, .int x1, .int x2, .int x3]) (st := []) (w := w1) rfl h4).trans <|
    (runs_stps (q' := (34, [.ref 20, .int x1, .int x2, .int x3], [.int 1], w1)) 1 rfl).trans <|
    runs_ret rfl
  · exact (runs_stps (q' := (7, [.ref 27, .int x1, .int x2, .int x3], [.int (w.1 27 8), .int x3], w)) 3 rfl).trans <|
    (runs_if_f (a := 41) (b := 10) (L := [.ref 27, .int x1, .int x2, .int x3]) (st := []) (w := w) rfl h1).trans <|
    (runs_stps (q' := (16, [.ref 27, .int x1, .int x2, .int x3], [.int 1, .int ((x1 >>> (x3 &&& 31)) &&& 1)], w)) 6 rfl).trans <|
    (runs_if_t (a := 19) (b := 35) (L := [.ref 27, .int x1, .int x2, .int x3]) (st := []) (w := w) rfl h2).trans <|
    (runs_stps (q' := (24, [.ref 27, .int x1, .int x2, .int x3], [.int x3, .ref (27 + 6)], w)) 3 rfl).trans <|
    (runs_callS (rv := some (.int r1)) (w' := w1) rfl rfl rfl h3).trans <|
    (runs_stps (q' := (30, [.ref 27, .int x1, .int x2, .int x3], [.int x2, .int (r1 &&& x2)], w1)) 3 rfl).trans <|
    (runs_if_t (a := 33) (b := 35) (L := [.ref 27, .int x1, .int x2, .int x3]) (st := []) (w := w1) rfl h4).trans <|
    (runs_stps (q' := (34, [.ref 27, .int x1, .int x2, .int x3], [.int 1], w1)) 1 rfl).trans <|
    runs_ret rfl
theorem p_X5_isHumming_0T_R {ex : Ex} {p : Nat} {x1 : Int32} {r1 : Int32} {w1 : Wd} {w : Wd} (hp : scp p) (h1 : ex 45 [.int x1] w = some (some (.int r1), w1)) (h2 : r1 < (w1.1 p 11)) : runs (T_X5_isHumming ex) (0, [.ref p, .int x1], [], w) = some (some (.int 0), w1) := by
  rcases hp with rfl | rfl
  · exact (runs_stps (q' := (1, [.ref 20, .int x1], [.int x1], w)) 1 rfl).trans <|
    (runs_callS (rv := some (.int r1)) (w' := w1) rfl rfl rfl h1).trans <|
    (runs_stps (q' := (8, [.ref 20, .int x1], [.int (w1.1 20 11), .int r1], w1)) 2 rfl).trans <|
    (runs_if_t (a := 15) (b := 11) (L := [.ref 20, .int x1]) (st := []) (w := w1) rfl h2).trans <|
    (runs_stps (q' := (16, [.null, .null], [.int 0], w1)) 1 rfl).trans <|
    runs_ret rfl
  · exact (runs_stps (q' := (1, [.ref 27, .int x1], [.int x1], w)) 1 rfl).trans <|
    (runs_callS (rv := some (.int r1)) (w' := w1) rfl rfl rfl h1).trans <|
    (runs_stps (q' := (8, [.ref 27, .int x1], [.int (w1.1 27 11), .int r1], w1)) 2 rfl).trans <|
    (runs_if_t (a := 15) (b := 11) (L := [.ref 27, .int x1]) (st := []) (w := w1) rfl h2).trans <|
    (runs_stps (q' := (16, [.null, .null], [.int 0], w1)) 1 rfl).trans <|
    runs_ret rfl
theorem p_X5_isHumming_0F_R {ex : Ex} {p : Nat} {x1 : Int32} {r1 : Int32} {w1 : Wd} {w : Wd} (hp : scp p) (h1 : ex 45 [.int x1] w = some (some (.int r1), w1)) (h2 : ¬ r1 < (w1.1 p 11)) : runs (T_X5_isHumming ex) (0, [.ref p, .int x1], [], w) = some (some (.int 1), w1) := by
  rcases hp with rfl | rfl
  · exact (runs_stps (q' := (1, [.ref 20, .int x1], [.int x1], w)) 1 rfl).trans <|
    (runs_callS (rv := some (.int r1)) (w' := w1) rfl rfl rfl h1).trans <|
    (runs_stps (q' := (8, [.ref 20, .int x1], [.int (w1.1 20 11), .int r1], w1)) 2 rfl).trans <|
    (runs_if_f (a := 15) (b := 11) (L := [.ref 20, .int x1]) (st := []) (w := w1) rfl h2).trans <|
    (runs_stps (q' := (16, [.ref 20, .int x1], [.int 1], w1)) 2 rfl).trans <|
    runs_ret rfl
  · exact (runs_stps (q' := (1, [.ref 27, .int x1], [.int x1], w)) 1 rfl).trans <|
    (runs_callS (rv := some (.int r1)) (w' := w1) rfl rfl rfl h1).trans <|
    (runs_stps (q' := (8, [.ref 27, .int x1], [.int (w1.1 27 11), .int r1], w1)) 2 rfl).trans <|
    (runs_if_f (a := 15) (b := 11) (L := [.ref 27, .int x1]) (st := []) (w := w1) rfl h2).trans <|
    (runs_stps (q' := (16, [.ref 27, .int x1], [.int 1], w1)) 2 rfl).trans <|
    runs_ret rfl
theorem p_X5_knows_0_L4 {ex : Ex} {p : Nat} {x1 : Int32} {w : Wd} (hp : scp p) : runs (T_X5_knows ex) (0, [.ref p, .int x1, .null, .null], [], w) = runs (T_X5_knows ex) (4, [.ref p, .int x1, .int x1, .int 0], [], w) := by
  rcases hp with rfl | rfl
  · exact (runs_stps (q' := (4, [.ref 20, .int x1, .int x1, .int 0], [], w)) 4 rfl).trans <|
    rfl
  · exact (runs_stps (q' := (4, [.ref 27, .int x1, .int x1, .int 0], [], w)) 4 rfl).trans <|
    rfl
theorem p_X5_knows_4T_R {ex : Ex} {p : Nat} {v1 : Value} {x2 : Int32} {x3 : Int32} {w : Wd} (hp : scp p) (h1 : 5 ≤ x3) : runs (T_X5_knows ex) (4, [.ref p, v1, .int x2, .int x3], [], w) = some (some (.int 1), w) := by
  rcases hp with rfl | rfl
  · exact (runs_stps (q' := (6, [.ref 20, .null, .int x2, .int x3], [.int 5, .int x3], w)) 2 rfl).trans <|
    (runs_if_t (a := 37) (b := 9) (L := [.ref 20, .null, .int x2, .int x3]) (st := []) (w := w) rfl h1).trans <|
    (runs_stps (q' := (38, [.null, .null, .null, .null], [.int 1], w)) 1 rfl).trans <|
    runs_ret rfl
  · exact (runs_stps (q' := (6, [.ref 27, .null, .int x2, .int x3], [.int 5, .int x3], w)) 2 rfl).trans <|
    (runs_if_t (a := 37) (b := 9) (L := [.ref 27, .null, .int x2, .int x3]) (st := []) (w := w) rfl h1).trans <|
    (runs_stps (q' := (38, [.null, .null, .null, .null], [.int 1], w)) 1 rfl).trans <|
    runs_ret rfl
theorem p_X5_knows_4FT_R {ex : Ex} {p : Nat} {v1 : Value} {x2 : Int32} {x3 : Int32} {w : Wd} (hp : scp p) (h1 : ¬ 5 ≤ x3) (h2 : x2 ≤ 0) : runs (T_X5_knows ex) (4, [.ref p, v1, .int x2, .int x3], [], w) = some (some (.int 1), w) := by
  rcases hp with rfl | rfl
  · exact (runs_stps (q' := (6, [.ref 20, .null, .int x2, .int x3], [.int 5, .int x3], w)) 2 rfl).trans <|
    (runs_if_f (a := 37) (b := 9) (L := [.ref 20, .null, .int x2, .int x3]) (st := []) (w := w) rfl h1).trans <|
    (runs_stps (q' := (10, [.ref 20, .null, .int x2, .int x3], [.int x2], w)) 1 rfl).trans <|
    (runs_if_t (a := 37) (b := 13) (L := [.ref 20, .null, .int x2, .int x3]) (st := []) (w := w) rfl h2).trans <|
    (runs_stps (q' := (38, [.null, .null, .null, .null], [.int 1], w)) 1 rfl).trans <|
    runs_ret rfl
  · exact (runs_stps (q' := (6, [.ref 27, .null, .int x2, .int x3], [.int 5, .int x3], w)) 2 rfl).trans <|
    (runs_if_f (a := 37) (b := 9) (L := [.ref 27, .null, .int x2, .int x3]) (st := []) (w := w) rfl h1).trans <|
    (runs_stps (q' := (10, [.ref 27, .null, .int x2, .int x3], [.int x2], w)) 1 rfl).trans <|
    (runs_if_t (a := 37) (b := 13) (L := [.ref 27, .null, .int x2, .int x3]) (st := []) (w := w) rfl h2).trans <|
    (runs_stps (q' := (38, [.null, .null, .null, .null], [.int 1], w)) 1 rfl).trans <|
    runs_ret rfl
theorem p_X5_knows_4FFT_L4 {ex : Ex} {p : Nat} {v1 : Value} {x2 : Int32} {x3 : Int32} {r1 : Int32} {w1 : Wd} {r2 : Int32} {w2 : Wd} {r3 : Int32} {w3 : Wd} {w : Wd} (hp : scp p) (h1 : ¬ 5 ≤ x3) (h2 : ¬ x2 ≤ 0) (h3 : ex 40 [.int x2] w = some (some (.int r1), w1)) (h4 : ex 59 [.ref p, .int r1] w1 = some (some (.int r2), w2)) (h5 : ¬ r2 = 0) (h6 : ex 41 [.int x2] w2 = some (some (.int r3), w3)) : runs (T_X5_knows ex) (4, [.ref p, v1, .int x2, .int x3], [], w) = runs (T_X5_knows ex) (4, [.ref p, .null, .int r3, .int (x3 + 1)], [], w3) := by
  rcases hp with rfl | rfl
  · exact (runs_stps (q' := (6, [.ref 20, .null, .int x2, .int x3], [.int 5, .int x3], w)) 2 rfl).trans <|
    (runs_if_f (a := 37) (b := 9) (L := [.ref 20, .null, .int x2, .int x3]) (st := []) (w := w) rfl h1).trans <|
    (runs_stps (q' := (10, [.ref 20, .null, .int x2, .int x3], [.int x2], w)) 1 rfl).trans <|
    (runs_if_f (a := 37) (b := 13) (L := [.ref 20, .null, .int x2, .int x3]) (st := []) (w := w) rfl h2).trans <|
    (runs_stps (q' := (15, [.ref 20, .null, .int x2, .int x3], [.int x2, .ref 20], w)) 2 rfl).trans <|
    (runs_callS (rv := some (.int r1)) (w' := w1) rfl rfl rfl h3).trans <|
    (runs_callV (rv := some (.int r2)) (w' := w2) rfl rfl rfl rfl h4).trans <|
    (runs_if_f (a := 24) (b := 26) (L := [.ref 20, .null, .int x2, .int x3]) (st := []) (w := w2) rfl h5).trans <|
    (runs_stps (q' := (27, [.ref 20, .null, .int x2, .int x3], [.int x2], w2)) 1 rfl).trans <|
    (runs_callS (rv := some (.int r3)) (w' := w3) rfl rfl rfl h6).trans <|
    (runs_stps (q' := (4, [.ref 20, .null, .int r3, .int (x3 + 1)], [], w3)) 3 rfl).trans <|
    rfl
  · exact (runs_stps (q' := (6, [.ref 27, .null, .int x2, .int x3], [.int 5, .int x3], w)) 2 rfl).trans <|
    (runs_if_f (a := 37) (b := 9) (L := [.ref 27, .null, .int x2, .int x3]) (st := []) (w := w) rfl h1).trans <|
    (runs_stps (q' := (10, [.ref 27, .null, .int x2, .int x3], [.int x2], w)) 1 rfl).trans <|
    (runs_if_f (a := 37) (b := 13) (L := [.ref 27, .null, .int x2, .int x3]) (st := []) (w := w) rfl h2).trans <|
    (runs_stps (q' := (15, [.ref 27, .null, .int x2, .int x3], [.int x2, .ref 27], w)) 2 rfl).trans <|
    (runs_callS (rv := some (.int r1)) (w' := w1) rfl rfl rfl h3).trans <|
    (runs_callV (rv := some (.int r2)) (w' := w2) rfl rfl rfl rfl h4).trans <|
    (runs_if_f (a := 24) (b := 26) (L := [.ref 27, .null, .int x2, .int x3]) (st := []) (w := w2) rfl h5).trans <|
    (runs_stps (q' := (27, [.ref 27, .null, .int x2, .int x3], [.int x2], w2)) 1 rfl).trans <|
    (runs_callS (rv := some (.int r3)) (w' := w3) rfl rfl rfl h6).trans <|
    (runs_stps (q' := (4, [.ref 27, .null, .int r3, .int (x3 + 1)], [], w3)) 3 rfl).trans <|
    rfl
theorem p_X5_knows_4FFF_R {ex : Ex} {p : Nat} {v1 : Value} {x2 : Int32} {x3 : Int32} {r1 : Int32} {w1 : Wd} {r2 : Int32} {w2 : Wd} {w : Wd} (hp : scp p) (h1 : ¬ 5 ≤ x3) (h2 : ¬ x2 ≤ 0) (h3 : ex 40 [.int x2] w = some (some (.int r1), w1)) (h4 : ex 59 [.ref p, .int r1] w1 = some (some (.int r2), w2)) (h5 : r2 = 0) : runs (T_X5_knows ex) (4, [.ref p, v1, .int x2, .int x3], [], w) = some (some (.int 0), w2) := by
  rcases hp with rfl | rfl
  · exact (runs_stps (q' := (6, [.ref 20, .null, .int x2, .int x3], [.int 5, .int x3], w)) 2 rfl).trans <|
    (runs_if_f (a := 37) (b := 9) (L := [.ref 20, .null, .int x2, .int x3]) (st := []) (w := w) rfl h1).trans <|
    (runs_stps (q' := (10, [.ref 20, .null, .int x2, .int x3], [.int x2], w)) 1 rfl).trans <|
    (runs_if_f (a := 37) (b := 13) (L := [.ref 20, .null, .int x2, .int x3]) (st := []) (w := w) rfl h2).trans <|
    (runs_stps (q' := (15, [.ref 20, .null, .int x2, .int x3], [.int x2, .ref 20], w)) 2 rfl).trans <|
    (runs_callS (rv := some (.int r1)) (w' := w1) rfl rfl rfl h3).trans <|
    (runs_callV (rv := some (.int r2)) (w' := w2) rfl rfl rfl rfl h4).trans <|
    (runs_if_t (a := 24) (b := 26) (L := [.ref 20, .null, .int x2, .int x3]) (st := []) (w := w2) rfl h5).trans <|
    (runs_stps (q' := (25, [.ref 20, .null, .int x2, .int x3], [.int 0], w2)) 1 rfl).trans <|
    runs_ret rfl
  · exact (runs_stps (q' := (6, [.ref 27, .null, .int x2, .int x3], [.int 5, .int x3], w)) 2 rfl).trans <|
    (runs_if_f (a := 37) (b := 9) (L := [.ref 27, .null, .int x2, .int x3]) (st := []) (w := w) rfl h1).trans <|
    (runs_stps (q' := (10, [.ref 27, .null, .int x2, .int x3], [.int x2], w)) 1 rfl).trans <|
    (runs_if_f (a := 37) (b := 13) (L := [.ref 27, .null, .int x2, .int x3]) (st := []) (w := w) rfl h2).trans <|
    (runs_stps (q' := (15, [.ref 27, .null, .int x2, .int x3], [.int x2, .ref 27], w)) 2 rfl).trans <|
    (runs_callS (rv := some (.int r1)) (w' := w1) rfl rfl rfl h3).trans <|
    (runs_callV (rv := some (.int r2)) (w' := w2) rfl rfl rfl rfl h4).trans <|
    (runs_if_t (a := 24) (b := 26) (L := [.ref 27, .null, .int x2, .int x3]) (st := []) (w := w2) rfl h5).trans <|
    (runs_stps (q' := (25, [.ref 27, .null, .int x2, .int x3], [.int 0], w2)) 1 rfl).trans <|
    runs_ret rfl
theorem p_X5_worksOf_0_L7 {ex : Ex} {p : Nat} {x1 : Int32} {w : Wd} (hp : scp p) : runs (T_X5_worksOf ex) (0, [.ref p, .int x1, .null, .null, .null, .null], [], w) = runs (T_X5_worksOf ex) (7, [.ref p, .int x1, .int 0, .int x1, .int 0, .null], [], w) := by
  rcases hp with rfl | rfl
  · exact (runs_stps (q' := (7, [.ref 20, .int x1, .int 0, .int x1, .int 0, .null], [], w)) 6 rfl).trans <|
    rfl
  · exact (runs_stps (q' := (7, [.ref 27, .int x1, .int 0, .int x1, .int 0, .null], [], w)) 6 rfl).trans <|
    rfl
theorem p_X5_worksOf_7T_R {ex : Ex} {p : Nat} {v1 : Value} {x2 : Int32} {x3 : Int32} {x4 : Int32} {v5 : Value} {w : Wd} (hp : scp p) (h1 : 5 ≤ x4) : runs (T_X5_worksOf ex) (7, [.ref p, v1, .int x2, .int x3, .int x4, v5], [], w) = some (some (.int x2), w) := by
  rcases hp with rfl | rfl
  · exact (runs_stps (q' := (10, [.ref 20, .null, .int x2, .int x3, .int x4, .null], [.int 5, .int x4], w)) 2 rfl).trans <|
    (runs_if_t (a := 62) (b := 13) (L := [.ref 20, .null, .int x2, .int x3, .int x4, .null]) (st := []) (w := w) rfl h1).trans <|
    (runs_stps (q' := (63, [.null, .null, .int x2, .null, .null, .null], [.int x2], w)) 1 rfl).trans <|
    runs_ret rfl
  · exact (runs_stps (q' := (10, [.ref 27, .null, .int x2, .int x3, .int x4, .null], [.int 5, .int x4], w)) 2 rfl).trans <|
    (runs_if_t (a := 62) (b := 13) (L := [.ref 27, .null, .int x2, .int x3, .int x4, .null]) (st := []) (w := w) rfl h1).trans <|
    (runs_stps (q' := (63, [.null, .null, .int x2, .null, .null, .null], [.int x2], w)) 1 rfl).trans <|
    runs_ret rfl
theorem p_X5_worksOf_7FT_R {ex : Ex} {p : Nat} {v1 : Value} {x2 : Int32} {x3 : Int32} {x4 : Int32} {v5 : Value} {w : Wd} (hp : scp p) (h1 : ¬ 5 ≤ x4) (h2 : x3 ≤ 0) : runs (T_X5_worksOf ex) (7, [.ref p, v1, .int x2, .int x3, .int x4, v5], [], w) = some (some (.int x2), w) := by
  rcases hp with rfl | rfl
  · exact (runs_stps (q' := (10, [.ref 20, .null, .int x2, .int x3, .int x4, .null], [.int 5, .int x4], w)) 2 rfl).trans <|
    (runs_if_f (a := 62) (b := 13) (L := [.ref 20, .null, .int x2, .int x3, .int x4, .null]) (st := []) (w := w) rfl h1).trans <|
    (runs_stps (q' := (14, [.ref 20, .null, .int x2, .int x3, .int x4, .null], [.int x3], w)) 1 rfl).trans <|
    (runs_if_t (a := 62) (b := 17) (L := [.ref 20, .null, .int x2, .int x3, .int x4, .null]) (st := []) (w := w) rfl h2).trans <|
    (runs_stps (q' := (63, [.null, .null, .int x2, .null, .null, .null], [.int x2], w)) 1 rfl).trans <|
    runs_ret rfl
  · exact (runs_stps (q' := (10, [.ref 27, .null, .int x2, .int x3, .int x4, .null], [.int 5, .int x4], w)) 2 rfl).trans <|
    (runs_if_f (a := 62) (b := 13) (L := [.ref 27, .null, .int x2, .int x3, .int x4, .null]) (st := []) (w := w) rfl h1).trans <|
    (runs_stps (q' := (14, [.ref 27, .null, .int x2, .int x3, .int x4, .null], [.int x3], w)) 1 rfl).trans <|
    (runs_if_t (a := 62) (b := 17) (L := [.ref 27, .null, .int x2, .int x3, .int x4, .null]) (st := []) (w := w) rfl h2).trans <|
    (runs_stps (q' := (63, [.null, .null, .int x2, .null, .null, .null], [.int x2], w)) 1 rfl).trans <|
    runs_ret rfl
theorem p_X5_worksOf_7FFT_L7 {ex : Ex} {p : Nat} {v1 : Value} {x2 : Int32} {x3 : Int32} {x4 : Int32} {v5 : Value} {r1 : Int32} {w1 : Wd} {r2 : Int32} {w2 : Wd} {r3 : Int32} {w3 : Wd} {r4 : Int32} {w4 : Wd} {w : Wd} (hp : scp p) (h1 : ¬ 5 ≤ x4) (h2 : ¬ x3 ≤ 0) (h3 : ex 40 [.int x3] w = some (some (.int r1), w1)) (h4 : ex 133 [.ref (p + 1), .int r1] w1 = some (some (.int r2), w2)) (h5 : ex 133 [.ref (p + 2), .int r1] w2 = some (some (.int r3), w3)) (h6 : ¬ r3 = 0) (h7 : ex 41 [.int x3] w3 = some (some (.int r4), w4)) : runs (T_X5_worksOf ex) (7, [.ref p, v1, .int x2, .int x3, .int x4, v5], [], w) = runs (T_X5_worksOf ex) (7, [.ref p, .null, .int (x2 ||| (1 <<< (r2 &&& 31))), .int r4, .int (x4 + 1), .null], [], w4) := by
  rcases hp with rfl | rfl
  · exact (runs_stps (q' := (10, [.ref 20, .null, .int x2, .int x3, .int x4, .null], [.int 5, .int x4], w)) 2 rfl).trans <|
    (runs_if_f (a := 62) (b := 13) (L := [.ref 20, .null, .int x2, .int x3, .int x4, .null]) (st := []) (w := w) rfl h1).trans <|
    (runs_stps (q' := (14, [.ref 20, .null, .int x2, .int x3, .int x4, .null], [.int x3], w)) 1 rfl).trans <|
    (runs_if_f (a := 62) (b := 17) (L := [.ref 20, .null, .int x2, .int x3, .int x4, .null]) (st := []) (w := w) rfl h2).trans <|
    (runs_stps (q' := (18, [.ref 20, .null, .int x2, .int x3, .int x4, .null], [.int x3], w)) 1 rfl).trans <|
    (runs_callS (rv := some (.int r1)) (w' := w1) rfl rfl rfl h3).trans <|
    (runs_stps (q' := (31, [.ref 20, .null, .int x2, .int x3, .int x4, .int r1], [.int r1, .ref (20 + 1), .int 1, .int x2], w1)) 6 rfl).trans <|
    (runs_callS (rv := some (.int r2)) (w' := w2) rfl rfl rfl h4).trans <|
    (runs_stps (q' := (43, [.ref 20, .null, .int (x2 ||| (1 <<< (r2 &&& 31))), .int x3, .int x4, .int r1], [.int r1, .ref (20 + 2)], w2)) 6 rfl).trans <|
    (runs_callS (rv := some (.int r3)) (w' := w3) rfl rfl rfl h5).trans <|
    (runs_if_f (a := 49) (b := 51) (L := [.ref 20, .null, .int (x2 ||| (1 <<< (r2 &&& 31))), .int x3, .int x4, .int r1]) (st := []) (w := w3) rfl h6).trans <|
    (runs_stps (q' := (52, [.ref 20, .null, .int (x2 ||| (1 <<< (r2 &&& 31))), .int x3, .int x4, .null], [.int x3], w3)) 1 rfl).trans <|
    (runs_callS (rv := some (.int r4)) (w' := w4) rfl rfl rfl h7).trans <|
    (runs_stps (q' := (7, [.ref 20, .null, .int (x2 ||| (1 <<< (r2 &&& 31))), .int r4, .int (x4 + 1), .null], [], w4)) 3 rfl).trans <|
    rfl
  · exact (runs_stps (q' := (10, [.ref 27, .null, .int x2, .int x3, .int x4, .null], [.int 5, .int x4], w)) 2 rfl).trans <|
    (runs_if_f (a := 62) (b := 13) (L := [.ref 27, .null, .int x2, .int x3, .int x4, .null]) (st := []) (w := w) rfl h1).trans <|
    (runs_stps (q' := (14, [.ref 27, .null, .int x2, .int x3, .int x4, .null], [.int x3], w)) 1 rfl).trans <|
    (runs_if_f (a := 62) (b := 17) (L := [.ref 27, .null, .int x2, .int x3, .int x4, .null]) (st := []) (w := w) rfl h2).trans <|
    (runs_stps (q' := (18, [.ref 27, .null, .int x2, .int x3, .int x4, .null], [.int x3], w)) 1 rfl).trans <|
    (runs_callS (rv := some (.int r1)) (w' := w1) rfl rfl rfl h3).trans <|
    (runs_stps (q' := (31, [.ref 27, .null, .int x2, .int x3, .int x4, .int r1], [.int r1, .ref (27 + 1), .int 1, .int x2], w1)) 6 rfl).trans <|
    (runs_callS (rv := some (.int r2)) (w' := w2) rfl rfl rfl h4).trans <|
    (runs_stps (q' := (43, [.ref 27, .null, .int (x2 ||| (1 <<< (r2 &&& 31))), .int x3, .int x4, .int r1], [.int r1, .ref (27 + 2)], w2)) 6 rfl).trans <|
    (runs_callS (rv := some (.int r3)) (w' := w3) rfl rfl rfl h5).trans <|
    (runs_if_f (a := 49) (b := 51) (L := [.ref 27, .null, .int (x2 ||| (1 <<< (r2 &&& 31))), .int x3, .int x4, .int r1]) (st := []) (w := w3) rfl h6).trans <|
    (runs_stps (q' := (52, [.ref 27, .null, .int (x2 ||| (1 <<< (r2 &&& 31))), .int x3, .int x4, .null], [.int x3], w3)) 1 rfl).trans <|
    (runs_callS (rv := some (.int r4)) (w' := w4) rfl rfl rfl h7).trans <|
    (runs_stps (q' := (7, [.ref 27, .null, .int (x2 ||| (1 <<< (r2 &&& 31))), .int r4, .int (x4 + 1), .null], [], w4)) 3 rfl).trans <|
    rfl
theorem p_X5_worksOf_7FFF_R {ex : Ex} {p : Nat} {v1 : Value} {x2 : Int32} {x3 : Int32} {x4 : Int32} {v5 : Value} {r1 : Int32} {w1 : Wd} {r2 : Int32} {w2 : Wd} {r3 : Int32} {w3 : Wd} {w : Wd} (hp : scp p) (h1 : ¬ 5 ≤ x4) (h2 : ¬ x3 ≤ 0) (h3 : ex 40 [.int x3] w = some (some (.int r1), w1)) (h4 : ex 133 [.ref (p + 1), .int r1] w1 = some (some (.int r2), w2)) (h5 : ex 133 [.ref (p + 2), .int r1] w2 = some (some (.int r3), w3)) (h6 : r3 = 0) : runs (T_X5_worksOf ex) (7, [.ref p, v1, .int x2, .int x3, .int x4, v5], [], w) = some (some (.int (x2 ||| (1 <<< (r2 &&& 31)))), w3) := by
  rcases hp with rfl | rfl
  · exact (runs_stps (q' := (10, [.ref 20, .null, .int x2, .int x3, .int x4, .null], [.int 5, .int x4], w)) 2 rfl).trans <|
    (runs_if_f (a := 62) (b := 13) (L := [.ref 20, .null, .int x2, .int x3, .int x4, .null]) (st := []) (w := w) rfl h1).trans <|
    (runs_stps (q' := (14, [.ref 20, .null, .int x2, .int x3, .int x4, .null], [.int x3], w)) 1 rfl).trans <|
    (runs_if_f (a := 62) (b := 17) (L := [.ref 20, .null, .int x2, .int x3, .int x4, .null]) (st := []) (w := w) rfl h2).trans <|
    (runs_stps (q' := (18, [.ref 20, .null, .int x2, .int x3, .int x4, .null], [.int x3], w)) 1 rfl).trans <|
    (runs_callS (rv := some (.int r1)) (w' := w1) rfl rfl rfl h3).trans <|
    (runs_stps (q' := (31, [.ref 20, .null, .int x2, .int x3, .int x4, .int r1], [.int r1, .ref (20 + 1), .int 1, .int x2], w1)) 6 rfl).trans <|
    (runs_callS (rv := some (.int r2)) (w' := w2) rfl rfl rfl h4).trans <|
    (runs_stps (q' := (43, [.ref 20, .null, .int (x2 ||| (1 <<< (r2 &&& 31))), .int x3, .int x4, .int r1], [.int r1, .ref (20 + 2)], w2)) 6 rfl).trans <|
    (runs_callS (rv := some (.int r3)) (w' := w3) rfl rfl rfl h5).trans <|
    (runs_if_t (a := 49) (b := 51) (L := [.ref 20, .null, .int (x2 ||| (1 <<< (r2 &&& 31))), .int x3, .int x4, .int r1]) (st := []) (w := w3) rfl h6).trans <|
    (runs_stps (q' := (50, [.ref 20, .null, .int (x2 ||| (1 <<< (r2 &&& 31))), .int x3, .int x4, .int r1], [.int (x2 ||| (1 <<< (r2 &&& 31)))], w3)) 1 rfl).trans <|
    runs_ret rfl
  · exact (runs_stps (q' := (10, [.ref 27, .null, .int x2, .int x3, .int x4, .null], [.int 5, .int x4], w)) 2 rfl).trans <|
    (runs_if_f (a := 62) (b := 13) (L := [.ref 27, .null, .int x2, .int x3, .int x4, .null]) (st := []) (w := w) rfl h1).trans <|
    (runs_stps (q' := (14, [.ref 27, .null, .int x2, .int x3, .int x4, .null], [.int x3], w)) 1 rfl).trans <|
    (runs_if_f (a := 62) (b := 17) (L := [.ref 27, .null, .int x2, .int x3, .int x4, .null]) (st := []) (w := w) rfl h2).trans <|
    (runs_stps (q' := (18, [.ref 27, .null, .int x2, .int x3, .int x4, .null], [.int x3], w)) 1 rfl).trans <|
    (runs_callS (rv := some (.int r1)) (w' := w1) rfl rfl rfl h3).trans <|
    (runs_stps (q' := (31, [.ref 27, .null, .int x2, .int x3, .int x4, .int r1], [.int r1, .ref (27 + 1), .int 1, .int x2], w1)) 6 rfl).trans <|
    (runs_callS (rv := some (.int r2)) (w' := w2) rfl rfl rfl h4).trans <|
    (runs_stps (q' := (43, [.ref 27, .null, .int (x2 ||| (1 <<< (r2 &&& 31))), .int x3, .int x4, .int r1], [.int r1, .ref (27 + 2)], w2)) 6 rfl).trans <|
    (runs_callS (rv := some (.int r3)) (w' := w3) rfl rfl rfl h5).trans <|
    (runs_if_t (a := 49) (b := 51) (L := [.ref 27, .null, .int (x2 ||| (1 <<< (r2 &&& 31))), .int x3, .int x4, .int r1]) (st := []) (w := w3) rfl h6).trans <|
    (runs_stps (q' := (50, [.ref 27, .null, .int (x2 ||| (1 <<< (r2 &&& 31))), .int x3, .int x4, .int r1], [.int (x2 ||| (1 <<< (r2 &&& 31)))], w3)) 1 rfl).trans <|
    runs_ret rfl
theorem p_X5_after_0TTT_R {ex : Ex} {p : Nat} {x1 : Int32} {x2 : Int32} {x3 : Int32} {w : Wd} (hp : scp p) (h1 : 5 ≤ x3) (h2 : ¬ x3 = 5) (h3 : ¬ x3 = 6) : runs (T_X5_after ex) (0, [.ref p, .int x1, .int x2, .int x3, .null, .null], [], w) = some (some (.int x1), w) := by
  rcases hp with rfl | rfl
  · exact (runs_stps (q' := (2, [.ref 20, .int x1, .int x2, .int x3, .null, .null], [.int 5, .int x3], w)) 2 rfl).trans <|
    (runs_if_t (a := 51) (b := 5) (L := [.ref 20, .int x1, .int x2, .int x3, .null, .null]) (st := []) (w := w) rfl h1).trans <|
    (runs_stps (q' := (53, [.ref 20, .int x1, .int x2, .int x3, .null, .null], [.int 5, .int x3], w)) 2 rfl).trans <|
    (runs_if_f (a := 56) (b := 81) (L := [.ref 20, .int x1, .int x2, .int x3, .null, .null]) (st := []) (w := w) rfl h2).trans <|
    (runs_stps (q' := (84, [.ref 20, .int x1, .int x2, .int x3, .null, .null], [.int 6, .int x3], w)) 2 rfl).trans <|
    (runs_if_f (a := 87) (b := 141) (L := [.ref 20, .int x1, .int x2, .int x3, .null, .null]) (st := []) (w := w) rfl h3).trans <|
    (runs_stps (q' := (142, [.null, .int x1, .null, .null, .null, .null], [.int x1], w)) 1 rfl).trans <|
    runs_ret rfl
  · exact (runs_stps (q' := (2, [.ref 27, .int x1, .int x2, .int x3, .null, .null], [.int 5, .int x3], w)) 2 rfl).trans <|
    (runs_if_t (a := 51) (b := 5) (L := [.ref 27, .int x1, .int x2, .int x3, .null, .null]) (st := []) (w := w) rfl h1).trans <|
    (runs_stps (q' := (53, [.ref 27, .int x1, .int x2, .int x3, .null, .null], [.int 5, .int x3], w)) 2 rfl).trans <|
    (runs_if_f (a := 56) (b := 81) (L := [.ref 27, .int x1, .int x2, .int x3, .null, .null]) (st := []) (w := w) rfl h2).trans <|
    (runs_stps (q' := (84, [.ref 27, .int x1, .int x2, .int x3, .null, .null], [.int 6, .int x3], w)) 2 rfl).trans <|
    (runs_if_f (a := 87) (b := 141) (L := [.ref 27, .int x1, .int x2, .int x3, .null, .null]) (st := []) (w := w) rfl h3).trans <|
    (runs_stps (q' := (142, [.null, .int x1, .null, .null, .null, .null], [.int x1], w)) 1 rfl).trans <|
    runs_ret rfl
theorem p_X5_after_0TTFTT_R {ex : Ex} {p : Nat} {x1 : Int32} {x2 : Int32} {x3 : Int32} {r1 : Int32} {w1 : Wd} {w : Wd} (hp : scp p) (h1 : 5 ≤ x3) (h2 : ¬ x3 = 5) (h3 : x3 = 6) (h4 : ex 41 [.int x1] w = some (some (.int r1), w1)) (h5 : r1 ≤ 0) (h6 : (0 : Int32) = 0) : runs (T_X5_after ex) (0, [.ref p, .int x1, .int x2, .int x3, .null, .null], [], w) = some (some (.int (-1)), w1) := by
  rcases hp with rfl | rfl
  · exact (runs_stps (q' := (2, [.ref 20, .int x1, .int x2, .int x3, .null, .null], [.int 5, .int x3], w)) 2 rfl).trans <|
    (runs_if_t (a := 51) (b := 5) (L := [.ref 20, .int x1, .int x2, .int x3, .null, .null]) (st := []) (w := w) rfl h1).trans <|
    (runs_stps (q' := (53, [.ref 20, .int x1, .int x2, .int x3, .null, .null], [.int 5, .int x3], w)) 2 rfl).trans <|
    (runs_if_f (a := 56) (b := 81) (L := [.ref 20, .int x1, .int x2, .int x3, .null, .null]) (st := []) (w := w) rfl h2).trans <|
    (runs_stps (q' := (84, [.ref 20, .int x1, .int x2, .int x3, .null, .null], [.int 6, .int x3], w)) 2 rfl).trans <|
    (runs_if_t (a := 87) (b := 141) (L := [.ref 20, .int x1, .int x2, .int x3, .null, .null]) (st := []) (w := w) rfl h3).trans <|
    (runs_stps (q' := (88, [.ref 20, .int x1, .int x2, .int x3, .null, .null], [.int x1], w)) 1 rfl).trans <|
    (runs_callS (rv := some (.int r1)) (w' := w1) rfl rfl rfl h4).trans <|
    (runs_stps (q' := (95, [.ref 20, .int x1, .int x2, .int x3, .int r1, .null], [.int r1], w1)) 2 rfl).trans <|
    (runs_if_t (a := 124) (b := 98) (L := [.ref 20, .int x1, .int x2, .int x3, .int r1, .null]) (st := []) (w := w1) rfl h5).trans <|
    (runs_stps (q' := (129, [.null, .int x1, .null, .null, .null, .int 0], [.int 0], w1)) 3 rfl).trans <|
    (runs_if_t (a := 139) (b := 132) (L := [.null, .int x1, .null, .null, .null, .int 0]) (st := []) (w := w1) rfl h6).trans <|
    (runs_stps (q' := (140, [.null, .null, .null, .null, .null, .null], [.int (-1)], w1)) 1 rfl).trans <|
    runs_ret rfl
  · exact (runs_stps (q' := (2, [.ref 27, .int x1, .int x2, .int x3, .null, .null], [.int 5, .int x3], w)) 2 rfl).trans <|
    (runs_if_t (a := 51) (b := 5) (L := [.ref 27, .int x1, .int x2, .int x3, .null, .null]) (st := []) (w := w) rfl h1).trans <|
    (runs_stps (q' := (53, [.ref 27, .int x1, .int x2, .int x3, .null, .null], [.int 5, .int x3], w)) 2 rfl).trans <|
    (runs_if_f (a := 56) (b := 81) (L := [.ref 27, .int x1, .int x2, .int x3, .null, .null]) (st := []) (w := w) rfl h2).trans <|
    (runs_stps (q' := (84, [.ref 27, .int x1, .int x2, .int x3, .null, .null], [.int 6, .int x3], w)) 2 rfl).trans <|
    (runs_if_t (a := 87) (b := 141) (L := [.ref 27, .int x1, .int x2, .int x3, .null, .null]) (st := []) (w := w) rfl h3).trans <|
    (runs_stps (q' := (88, [.ref 27, .int x1, .int x2, .int x3, .null, .null], [.int x1], w)) 1 rfl).trans <|
    (runs_callS (rv := some (.int r1)) (w' := w1) rfl rfl rfl h4).trans <|
    (runs_stps (q' := (95, [.ref 27, .int x1, .int x2, .int x3, .int r1, .null], [.int r1], w1)) 2 rfl).trans <|
    (runs_if_t (a := 124) (b := 98) (L := [.ref 27, .int x1, .int x2, .int x3, .int r1, .null]) (st := []) (w := w1) rfl h5).trans <|
    (runs_stps (q' := (129, [.null, .int x1, .null, .null, .null, .int 0], [.int 0], w1)) 3 rfl).trans <|
    (runs_if_t (a := 139) (b := 132) (L := [.null, .int x1, .null, .null, .null, .int 0]) (st := []) (w := w1) rfl h6).trans <|
    (runs_stps (q' := (140, [.null, .null, .null, .null, .null, .null], [.int (-1)], w1)) 1 rfl).trans <|
    runs_ret rfl
theorem p_X5_after_0TTFTF_R {ex : Ex} {p : Nat} {x1 : Int32} {x2 : Int32} {x3 : Int32} {r1 : Int32} {w1 : Wd} {r2 : Int32} {w2 : Wd} {w : Wd} (hp : scp p) (h1 : 5 ≤ x3) (h2 : ¬ x3 = 5) (h3 : x3 = 6) (h4 : ex 41 [.int x1] w = some (some (.int r1), w1)) (h5 : r1 ≤ 0) (h6 : ¬ (0 : Int32) = 0) (h7 : ex 44 [.int x1] w1 = some (some (.int r2), w2)) : runs (T_X5_after ex) (0, [.ref p, .int x1, .int x2, .int x3, .null, .null], [], w) = some (some (.int r2), w2) := by
  rcases hp with rfl | rfl
  · exact (runs_stps (q' := (2, [.ref 20, .int x1, .int x2, .int x3, .null, .null], [.int 5, .int x3], w)) 2 rfl).trans <|
    (runs_if_t (a := 51) (b := 5) (L := [.ref 20, .int x1, .int x2, .int x3, .null, .null]) (st := []) (w := w) rfl h1).trans <|
    (runs_stps (q' := (53, [.ref 20, .int x1, .int x2, .int x3, .null, .null], [.int 5, .int x3], w)) 2 rfl).trans <|
    (runs_if_f (a := 56) (b := 81) (L := [.ref 20, .int x1, .int x2, .int x3, .null, .null]) (st := []) (w := w) rfl h2).trans <|
    (runs_stps (q' := (84, [.ref 20, .int x1, .int x2, .int x3, .null, .null], [.int 6, .int x3], w)) 2 rfl).trans <|
    (runs_if_t (a := 87) (b := 141) (L := [.ref 20, .int x1, .int x2, .int x3, .null, .null]) (st := []) (w := w) rfl h3).trans <|
    (runs_stps (q' := (88, [.ref 20, .int x1, .int x2, .int x3, .null, .null], [.int x1], w)) 1 rfl).trans <|
    (runs_callS (rv := some (.int r1)) (w' := w1) rfl rfl rfl h4).trans <|
    (runs_stps (q' := (95, [.ref 20, .int x1, .int x2, .int x3, .int r1, .null], [.int r1], w1)) 2 rfl).trans <|
    (runs_if_t (a := 124) (b := 98) (L := [.ref 20, .int x1, .int x2, .int x3, .int r1, .null]) (st := []) (w := w1) rfl h5).trans <|
    (runs_stps (q' := (129, [.null, .int x1, .null, .null, .null, .int 0], [.int 0], w1)) 3 rfl).trans <|
    (runs_if_f (a := 139) (b := 132) (L := [.null, .int x1, .null, .null, .null, .int 0]) (st := []) (w := w1) rfl h6).trans <|
    (runs_stps (q' := (133, [.null, .int x1, .null, .null, .null, .int 0], [.int x1], w1)) 1 rfl).trans <|
    (runs_callS (rv := some (.int r2)) (w' := w2) rfl rfl rfl h7).trans <|
    (runs_stps (q' := (140, [.null, .int x1, .null, .null, .null, .int 0], [.int r2], w2)) 1 rfl).trans <|
    runs_ret rfl
  · exact (runs_stps (q' := (2, [.ref 27, .int x1, .int x2, .int x3, .null, .null], [.int 5, .int x3], w)) 2 rfl).trans <|
    (runs_if_t (a := 51) (b := 5) (L := [.ref 27, .int x1, .int x2, .int x3, .null, .null]) (st := []) (w := w) rfl h1).trans <|
    (runs_stps (q' := (53, [.ref 27, .int x1, .int x2, .int x3, .null, .null], [.int 5, .int x3], w)) 2 rfl).trans <|
    (runs_if_f (a := 56) (b := 81) (L := [.ref 27, .int x1, .int x2, .int x3, .null, .null]) (st := []) (w := w) rfl h2).trans <|
    (runs_stps (q' := (84, [.ref 27, .int x1, .int x2, .int x3, .null, .null], [.int 6, .int x3], w)) 2 rfl).trans <|
    (runs_if_t (a := 87) (b := 141) (L := [.ref 27, .int x1, .int x2, .int x3, .null, .null]) (st := []) (w := w) rfl h3).trans <|
    (runs_stps (q' := (88, [.ref 27, .int x1, .int x2, .int x3, .null, .null], [.int x1], w)) 1 rfl).trans <|
    (runs_callS (rv := some (.int r1)) (w' := w1) rfl rfl rfl h4).trans <|
    (runs_stps (q' := (95, [.ref 27, .int x1, .int x2, .int x3, .int r1, .null], [.int r1], w1)) 2 rfl).trans <|
    (runs_if_t (a := 124) (b := 98) (L := [.ref 27, .int x1, .int x2, .int x3, .int r1, .null]) (st := []) (w := w1) rfl h5).trans <|
    (runs_stps (q' := (129, [.null, .int x1, .null, .null, .null, .int 0], [.int 0], w1)) 3 rfl).trans <|
    (runs_if_f (a := 139) (b := 132) (L := [.null, .int x1, .null, .null, .null, .int 0]) (st := []) (w := w1) rfl h6).trans <|
    (runs_stps (q' := (133, [.null, .int x1, .null, .null, .null, .int 0], [.int x1], w1)) 1 rfl).trans <|
    (runs_callS (rv := some (.int r2)) (w' := w2) rfl rfl rfl h7).trans <|
    (runs_stps (q' := (140, [.null, .int x1, .null, .null, .null, .int 0], [.int r2], w2)) 1 rfl).trans <|
    runs_ret rfl
theorem p_X5_after_0TTFFTT_R {ex : Ex} {p : Nat} {x1 : Int32} {x2 : Int32} {x3 : Int32} {r1 : Int32} {w1 : Wd} {r2 : Int32} {w2 : Wd} {r3 : Int32} {w3 : Wd} {r4 : Int32} {w4 : Wd} {w : Wd} (hp : scp p) (h1 : 5 ≤ x3) (h2 : ¬ x3 = 5) (h3 : x3 = 6) (h4 : ex 41 [.int x1] w = some (some (.int r1), w1)) (h5 : ¬ r1 ≤ 0) (h6 : ex 40 [.int x1] w1 = some (some (.int r2), w2)) (h7 : ex 40 [.int r1] w2 = some (some (.int r3), w3)) (h8 : ex 72 [.ref p, .int x2, .int ((1 <<< (r2 &&& 31)) ||| (1 <<< (r3 &&& 31)))] w3 = some (some (.int r4), w4)) (h9 : r4 = 0) (h10 : (0 : Int32) = 0) : runs (T_X5_after ex) (0, [.ref p, .int x1, .int x2, .int x3, .null, .null], [], w) = some (some (.int (-1)), w4) := by
  rcases hp with rfl | rfl
  · exact (runs_stps (q' := (2, [.ref 20, .int x1, .int x2, .int x3, .null, .null], [.int 5, .int x3], w)) 2 rfl).trans <|
    (runs_if_t (a := 51) (b := 5) (L := [.ref 20, .int x1, .int x2, .int x3, .null, .null]) (st := []) (w := w) rfl h1).trans <|
    (runs_stps (q' := (53, [.ref 20, .int x1, .int x2, .int x3, .null, .null], [.int 5, .int x3], w)) 2 rfl).trans <|
    (runs_if_f (a := 56) (b := 81) (L := [.ref 20, .int x1, .int x2, .int x3, .null, .null]) (st := []) (w := w) rfl h2).trans <|
    (runs_stps (q' := (84, [.ref 20, .int x1, .int x2, .int x3, .null, .null], [.int 6, .int x3], w)) 2 rfl).trans <|
    (runs_if_t (a := 87) (b := 141) (L := [.ref 20, .int x1, .int x2, .int x3, .null, .null]) (st := []) (w := w) rfl h3).trans <|
    (runs_stps (q' := (88, [.ref 20, .int x1, .int x2, .int x3, .null, .null], [.int x1], w)) 1 rfl).trans <|
    (runs_callS (rv := some (.int r1)) (w' := w1) rfl rfl rfl h4).trans <|
    (runs_stps (q' := (95, [.ref 20, .int x1, .int x2, .int x3, .int r1, .null], [.int r1], w1)) 2 rfl).trans <|
    (runs_if_f (a := 124) (b := 98) (L := [.ref 20, .int x1, .int x2, .int x3, .int r1, .null]) (st := []) (w := w1) rfl h5).trans <|
    (runs_stps (q' := (102, [.ref 20, .int x1, .int x2, .int x3, .int r1, .null], [.int x1, .int 1, .int x2, .ref 20], w1)) 4 rfl).trans <|
    (runs_callS (rv := some (.int r2)) (w' := w2) rfl rfl rfl h6).trans <|
    (runs_stps (q' := (109, [.ref 20, .int x1, .int x2, .int x3, .int r1, .null], [.int r1, .int 1, .int (1 <<< (r2 &&& 31)), .int x2, .ref 20], w2)) 3 rfl).trans <|
    (runs_callS (rv := some (.int r3)) (w' := w3) rfl rfl rfl h7).trans <|
    (runs_stps (q' := (114, [.ref 20, .int x1, .int x2, .int x3, .int r1, .null], [.int ((1 <<< (r2 &&& 31)) ||| (1 <<< (r3 &&& 31))), .int x2, .ref 20], w3)) 2 rfl).trans <|
    (runs_callV (rv := some (.int r4)) (w' := w4) rfl rfl rfl rfl h8).trans <|
    (runs_if_t (a := 124) (b := 120) (L := [.ref 20, .int x1, .int x2, .int x3, .int r1, .null]) (st := []) (w := w4) rfl h9).trans <|
    (runs_stps (q' := (129, [.null, .int x1, .null, .null, .null, .int 0], [.int 0], w4)) 3 rfl).trans <|
    (runs_if_t (a := 139) (b := 132) (L := [.null, .int x1, .null, .null, .null, .int 0]) (st := []) (w := w4) rfl h10).trans <|
    (runs_stps (q' := (140, [.null, .null, .null, .null, .null, .null], [.int (-1)], w4)) 1 rfl).trans <|
    runs_ret rfl
  · exact (runs_stps (q' := (2, [.ref 27, .int x1, .int x2, .int x3, .null, .null], [.int 5, .int x3], w)) 2 rfl).trans <|
    (runs_if_t (a := 51) (b := 5) (L := [.ref 27, .int x1, .int x2, .int x3, .null, .null]) (st := []) (w := w) rfl h1).trans <|
    (runs_stps (q' := (53, [.ref 27, .int x1, .int x2, .int x3, .null, .null], [.int 5, .int x3], w)) 2 rfl).trans <|
    (runs_if_f (a := 56) (b := 81) (L := [.ref 27, .int x1, .int x2, .int x3, .null, .null]) (st := []) (w := w) rfl h2).trans <|
    (runs_stps (q' := (84, [.ref 27, .int x1, .int x2, .int x3, .null, .null], [.int 6, .int x3], w)) 2 rfl).trans <|
    (runs_if_t (a := 87) (b := 141) (L := [.ref 27, .int x1, .int x2, .int x3, .null, .null]) (st := []) (w := w) rfl h3).trans <|
    (runs_stps (q' := (88, [.ref 27, .int x1, .int x2, .int x3, .null, .null], [.int x1], w)) 1 rfl).trans <|
    (runs_callS (rv := some (.int r1)) (w' := w1) rfl rfl rfl h4).trans <|
    (runs_stps (q' := (95, [.ref 27, .int x1, .int x2, .int x3, .int r1, .null], [.int r1], w1)) 2 rfl).trans <|
    (runs_if_f (a := 124) (b := 98) (L := [.ref 27, .int x1, .int x2, .int x3, .int r1, .null]) (st := []) (w := w1) rfl h5).trans <|
    (runs_stps (q' := (102, [.ref 27, .int x1, .int x2, .int x3, .int r1, .null], [.int x1, .int 1, .int x2, .ref 27], w1)) 4 rfl).trans <|
    (runs_callS (rv := some (.int r2)) (w' := w2) rfl rfl rfl h6).trans <|
    (runs_stps (q' := (109, [.ref 27, .int x1, .int x2, .int x3, .int r1, .null], [.int r1, .int 1, .int (1 <<< (r2 &&& 31)), .int x2, .ref 27], w2)) 3 rfl).trans <|
    (runs_callS (rv := some (.int r3)) (w' := w3) rfl rfl rfl h7).trans <|
    (runs_stps (q' := (114, [.ref 27, .int x1, .int x2, .int x3, .int r1, .null], [.int ((1 <<< (r2 &&& 31)) ||| (1 <<< (r3 &&& 31))), .int x2, .ref 27], w3)) 2 rfl).trans <|
    (runs_callV (rv := some (.int r4)) (w' := w4) rfl rfl rfl rfl h8).trans <|
    (runs_if_t (a := 124) (b := 120) (L := [.ref 27, .int x1, .int x2, .int x3, .int r1, .null]) (st := []) (w := w4) rfl h9).trans <|
    (runs_stps (q' := (129, [.null, .int x1, .null, .null, .null, .int 0], [.int 0], w4)) 3 rfl).trans <|
    (runs_if_t (a := 139) (b := 132) (L := [.null, .int x1, .null, .null, .null, .int 0]) (st := []) (w := w4) rfl h10).trans <|
    (runs_stps (q' := (140, [.null, .null, .null, .null, .null, .null], [.int (-1)], w4)) 1 rfl).trans <|
    runs_ret rfl
theorem p_X5_after_0TTFFTF_R {ex : Ex} {p : Nat} {x1 : Int32} {x2 : Int32} {x3 : Int32} {r1 : Int32} {w1 : Wd} {r2 : Int32} {w2 : Wd} {r3 : Int32} {w3 : Wd} {r4 : Int32} {w4 : Wd} {r5 : Int32} {w5 : Wd} {w : Wd} (hp : scp p) (h1 : 5 ≤ x3) (h2 : ¬ x3 = 5) (h3 : x3 = 6) (h4 : ex 41 [.int x1] w = some (some (.int r1), w1)) (h5 : ¬ r1 ≤ 0) (h6 : ex 40 [.int x1] w1 = some (some (.int r2), w2)) (h7 : ex 40 [.int r1] w2 = some (some (.int r3), w3)) (h8 : ex 72 [.ref p, .int x2, .int ((1 <<< (r2 &&& 31)) ||| (1 <<< (r3 &&& 31)))] w3 = some (some (.int r4), w4)) (h9 : r4 = 0) (h10 : ¬ (0 : Int32) = 0) (h11 : ex 44 [.int x1] w4 = some (some (.int r5), w5)) : runs (T_X5_after ex) (0, [.ref p, .int x1, .int x2, .int x3, .null, .null], [], w) = some (some (.int r5), w5) := by
  rcases hp with rfl | rfl
  · exact (runs_stps (q' := (2, [.ref 20, .int x1, .int x2, .int x3, .null, .null], [.int 5, .int x3], w)) 2 rfl).trans <|
    (runs_if_t (a := 51) (b := 5) (L := [.ref 20, .int x1, .int x2, .int x3, .null, .null]) (st := []) (w := w) rfl h1).trans <|
    (runs_stps (q' := (53, [.ref 20, .int x1, .int x2, .int x3, .null, .null], [.int 5, .int x3], w)) 2 rfl).trans <|
    (runs_if_f (a := 56) (b := 81) (L := [.ref 20, .int x1, .int x2, .int x3, .null, .null]) (st := []) (w := w) rfl h2).trans <|
    (runs_stps (q' := (84, [.ref 20, .int x1, .int x2, .int x3, .null, .null], [.int 6, .int x3], w)) 2 rfl).trans <|
    (runs_if_t (a := 87) (b := 141) (L := [.ref 20, .int x1, .int x2, .int x3, .null, .null]) (st := []) (w := w) rfl h3).trans <|
    (runs_stps (q' := (88, [.ref 20, .int x1, .int x2, .int x3, .null, .null], [.int x1], w)) 1 rfl).trans <|
    (runs_callS (rv := some (.int r1)) (w' := w1) rfl rfl rfl h4).trans <|
    (runs_stps (q' := (95, [.ref 20, .int x1, .int x2, .int x3, .int r1, .null], [.int r1], w1)) 2 rfl).trans <|
    (runs_if_f (a := 124) (b := 98) (L := [.ref 20, .int x1, .int x2, .int x3, .int r1, .null]) (st := []) (w := w1) rfl h5).trans <|
    (runs_stps (q' := (102, [.ref 20, .int x1, .int x2, .int x3, .int r1, .null], [.int x1, .int 1, .int x2, .ref 20], w1)) 4 rfl).trans <|
    (runs_callS (rv := some (.int r2)) (w' := w2) rfl rfl rfl h6).trans <|
    (runs_stps (q' := (109, [.ref 20, .int x1, .int x2, .int x3, .int r1, .null], [.int r1, .int 1, .int (1 <<< (r2 &&& 31)), .int x2, .ref 20], w2)) 3 rfl).trans <|
    (runs_callS (rv := some (.int r3)) (w' := w3) rfl rfl rfl h7).trans <|
    (runs_stps (q' := (114, [.ref 20, .int x1, .int x2, .int x3, .int r1, .null], [.int ((1 <<< (r2 &&& 31)) ||| (1 <<< (r3 &&& 31))), .int x2, .ref 20], w3)) 2 rfl).trans <|
    (runs_callV (rv := some (.int r4)) (w' := w4) rfl rfl rfl rfl h8).trans <|
    (runs_if_t (a := 124) (b := 120) (L := [.ref 20, .int x1, .int x2, .int x3, .int r1, .null]) (st := []) (w := w4) rfl h9).trans <|
    (runs_stps (q' := (129, [.null, .int x1, .null, .null, .null, .int 0], [.int 0], w4)) 3 rfl).trans <|
    (runs_if_f (a := 139) (b := 132) (L := [.null, .int x1, .null, .null, .null, .int 0]) (st := []) (w := w4) rfl h10).trans <|
    (runs_stps (q' := (133, [.null, .int x1, .null, .null, .null, .int 0], [.int x1], w4)) 1 rfl).trans <|
    (runs_callS (rv := some (.int r5)) (w' := w5) rfl rfl rfl h11).trans <|
    (runs_stps (q' := (140, [.null, .int x1, .null, .null, .null, .int 0], [.int r5], w5)) 1 rfl).trans <|
    runs_ret rfl
  · exact (runs_stps (q' := (2, [.ref 27, .int x1, .int x2, .int x3, .null, .null], [.int 5, .int x3], w)) 2 rfl).trans <|
    (runs_if_t (a := 51) (b := 5) (L := [.ref 27, .int x1, .int x2, .int x3, .null, .null]) (st := []) (w := w) rfl h1).trans <|
    (runs_stps (q' := (53, [.ref 27, .int x1, .int x2, .int x3, .null, .null], [.int 5, .int x3], w)) 2 rfl).trans <|
    (runs_if_f (a := 56) (b := 81) (L := [.ref 27, .int x1, .int x2, .int x3, .null, .null]) (st := []) (w := w) rfl h2).trans <|
    (runs_stps (q' := (84, [.ref 27, .int x1, .int x2, .int x3, .null, .null], [.int 6, .int x3], w)) 2 rfl).trans <|
    (runs_if_t (a := 87) (b := 141) (L := [.ref 27, .int x1, .int x2, .int x3, .null, .null]) (st := []) (w := w) rfl h3).trans <|
    (runs_stps (q' := (88, [.ref 27, .int x1, .int x2, .int x3, .null, .null], [.int x1], w)) 1 rfl).trans <|
    (runs_callS (rv := some (.int r1)) (w' := w1) rfl rfl rfl h4).trans <|
    (runs_stps (q' := (95, [.ref 27, .int x1, .int x2, .int x3, .int r1, .null], [.int r1], w1)) 2 rfl).trans <|
    (runs_if_f (a := 124) (b := 98) (L := [.ref 27, .int x1, .int x2, .int x3, .int r1, .null]) (st := []) (w := w1) rfl h5).trans <|
    (runs_stps (q' := (102, [.ref 27, .int x1, .int x2, .int x3, .int r1, .null], [.int x1, .int 1, .int x2, .ref 27], w1)) 4 rfl).trans <|
    (runs_callS (rv := some (.int r2)) (w' := w2) rfl rfl rfl h6).trans <|
    (runs_stps (q' := (109, [.ref 27, .int x1, .int x2, .int x3, .int r1, .null], [.int r1, .int 1, .int (1 <<< (r2 &&& 31)), .int x2, .ref 27], w2)) 3 rfl).trans <|
    (runs_callS (rv := some (.int r3)) (w' := w3) rfl rfl rfl h7).trans <|
    (runs_stps (q' := (114, [.ref 27, .int x1, .int x2, .int x3, .int r1, .null], [.int ((1 <<< (r2 &&& 31)) ||| (1 <<< (r3 &&& 31))), .int x2, .ref 27], w3)) 2 rfl).trans <|
    (runs_callV (rv := some (.int r4)) (w' := w4) rfl rfl rfl rfl h8).trans <|
    (runs_if_t (a := 124) (b := 120) (L := [.ref 27, .int x1, .int x2, .int x3, .int r1, .null]) (st := []) (w := w4) rfl h9).trans <|
    (runs_stps (q' := (129, [.null, .int x1, .null, .null, .null, .int 0], [.int 0], w4)) 3 rfl).trans <|
    (runs_if_f (a := 139) (b := 132) (L := [.null, .int x1, .null, .null, .null, .int 0]) (st := []) (w := w4) rfl h10).trans <|
    (runs_stps (q' := (133, [.null, .int x1, .null, .null, .null, .int 0], [.int x1], w4)) 1 rfl).trans <|
    (runs_callS (rv := some (.int r5)) (w' := w5) rfl rfl rfl h11).trans <|
    (runs_stps (q' := (140, [.null, .int x1, .null, .null, .null, .int 0], [.int r5], w5)) 1 rfl).trans <|
    runs_ret rfl
theorem p_X5_after_0TTFFFT_R {ex : Ex} {p : Nat} {x1 : Int32} {x2 : Int32} {x3 : Int32} {r1 : Int32} {w1 : Wd} {r2 : Int32} {w2 : Wd} {r3 : Int32} {w3 : Wd} {r4 : Int32} {w4 : Wd} {w : Wd} (hp : scp p) (h1 : 5 ≤ x3) (h2 : ¬ x3 = 5) (h3 : x3 = 6) (h4 : ex 41 [.int x1] w = some (some (.int r1), w1)) (h5 : ¬ r1 ≤ 0) (h6 : ex 40 [.int x1] w1 = some (some (.int r2), w2)) (h7 : ex 40 [.int r1] w2 = some (some (.int r3), w3)) (h8 : ex 72 [.ref p, .int x2, .int ((1 <<< (r2 &&& 31)) ||| (1 <<< (r3 &&& 31)))] w3 = some (some (.int r4), w4)) (h9 : ¬ r4 = 0) (h10 : (1 : Int32) = 0) : runs (T_X5_after ex) (0, [.ref p, .int x1, .int x2, .int x3, .null, .null], [], w) = some (some (.int (-1)), w4) := by
  rcases hp with rfl | rfl
  · exact (runs_stps (q' := (2, [.ref 20, .int x1, .int x2, .int x3, .null, .null], [.int 5, .int x3], w)) 2 rfl).trans <|
    (runs_if_t (a := 51) (b := 5) (L := [.ref 20, .int x1, .int x2, .int x3, .null, .null]) (st := []) (w := w) rfl h1).trans <|
    (runs_stps (q' := (53, [.ref 20, .int x1, .int x2, .int x3, .null, .null], [.int 5, .int x3], w)) 2 rfl).trans <|
    (runs_if_f (a := 56) (b := 81) (L := [.ref 20, .int x1, .int x2, .int x3, .null, .null]) (st := []) (w := w) rfl h2).trans <|
    (runs_stps (q' := (84, [.ref 20, .int x1, .int x2, .int x3, .null, .null], [.int 6, .int x3], w)) 2 rfl).trans <|
    (runs_if_t (a := 87) (b := 141) (L := [.ref 20, .int x1, .int x2, .int x3, .null, .null]) (st := []) (w := w) rfl h3).trans <|
    (runs_stps (q' := (88, [.ref 20, .int x1, .int x2, .int x3, .null, .null], [.int x1], w)) 1 rfl).trans <|
    (runs_callS (rv := some (.int r1)) (w' := w1) rfl rfl rfl h4).trans <|
    (runs_stps (q' := (95, [.ref 20, .int x1, .int x2, .int x3, .int r1, .null], [.int r1], w1)) 2 rfl).trans <|
    (runs_if_f (a := 124) (b := 98) (L := [.ref 20, .int x1, .int x2, .int x3, .int r1, .null]) (st := []) (w := w1) rfl h5).trans <|
    (runs_stps (q' := (102, [.ref 20, .int x1, .int x2, .int x3, .int r1, .null], [.int x1, .int 1, .int x2, .ref 20], w1)) 4 rfl).trans <|
    (runs_callS (rv := some (.int r2)) (w' := w2) rfl rfl rfl h6).trans <|
    (runs_stps (q' := (109, [.ref 20, .int x1, .int x2, .int x3, .int r1, .null], [.int r1, .int 1, .int (1 <<< (r2 &&& 31)), .int x2, .ref 20], w2)) 3 rfl).trans <|
    (runs_callS (rv := some (.int r3)) (w' := w3) rfl rfl rfl h7).trans <|
    (runs_stps (q' := (114, [.ref 20, .int x1, .int x2, .int x3, .int r1, .null], [.int ((1 <<< (r2 &&& 31)) ||| (1 <<< (r3 &&& 31))), .int x2, .ref 20], w3)) 2 rfl).trans <|
    (runs_callV (rv := some (.int r4)) (w' := w4) rfl rfl rfl rfl h8).trans <|
    (runs_if_f (a := 124) (b := 120) (L := [.ref 20, .int x1, .int x2, .int x3, .int r1, .null]) (st := []) (w := w4) rfl h9).trans <|
    (runs_stps (q' := (129, [.null, .int x1, .null, .null, .null, .int 1], [.int 1], w4)) 4 rfl).trans <|
    (runs_if_t (a := 139) (b := 132) (L := [.null, .int x1, .null, .null, .null, .int 1]) (st := []) (w := w4) rfl h10).trans <|
    (runs_stps (q' := (140, [.null, .null, .null, .null, .null, .null], [.int (-1)], w4)) 1 rfl).trans <|
    runs_ret rfl
  · exact (runs_stps (q' := (2, [.ref 27, .int x1, .int x2, .int x3, .null, .null], [.int 5, .int x3], w)) 2 rfl).trans <|
    (runs_if_t (a := 51) (b := 5) (L := [.ref 27, .int x1, .int x2, .int x3, .null, .null]) (st := []) (w := w) rfl h1).trans <|
    (runs_stps (q' := (53, [.ref 27, .int x1, .int x2, .int x3, .null, .null], [.int 5, .int x3], w)) 2 rfl).trans <|
    (runs_if_f (a := 56) (b := 81) (L := [.ref 27, .int x1, .int x2, .int x3, .null, .null]) (st := []) (w := w) rfl h2).trans <|
    (runs_stps (q' := (84, [.ref 27, .int x1, .int x2, .int x3, .null, .null], [.int 6, .int x3], w)) 2 rfl).trans <|
    (runs_if_t (a := 87) (b := 141) (L := [.ref 27, .int x1, .int x2, .int x3, .null, .null]) (st := []) (w := w) rfl h3).trans <|
    (runs_stps (q' := (88, [.ref 27, .int x1, .int x2, .int x3, .null, .null], [.int x1], w)) 1 rfl).trans <|
    (runs_callS (rv := some (.int r1)) (w' := w1) rfl rfl rfl h4).trans <|
    (runs_stps (q' := (95, [.ref 27, .int x1, .int x2, .int x3, .int r1, .null], [.int r1], w1)) 2 rfl).trans <|
    (runs_if_f (a := 124) (b := 98) (L := [.ref 27, .int x1, .int x2, .int x3, .int r1, .null]) (st := []) (w := w1) rfl h5).trans <|
    (runs_stps (q' := (102, [.ref 27, .int x1, .int x2, .int x3, .int r1, .null], [.int x1, .int 1, .int x2, .ref 27], w1)) 4 rfl).trans <|
    (runs_callS (rv := some (.int r2)) (w' := w2) rfl rfl rfl h6).trans <|
    (runs_stps (q' := (109, [.ref 27, .int x1, .int x2, .int x3, .int r1, .null], [.int r1, .int 1, .int (1 <<< (r2 &&& 31)), .int x2, .ref 27], w2)) 3 rfl).trans <|
    (runs_callS (rv := some (.int r3)) (w' := w3) rfl rfl rfl h7).trans <|
    (runs_stps (q' := (114, [.ref 27, .int x1, .int x2, .int x3, .int r1, .null], [.int ((1 <<< (r2 &&& 31)) ||| (1 <<< (r3 &&& 31))), .int x2, .ref 27], w3)) 2 rfl).trans <|
    (runs_callV (rv := some (.int r4)) (w' := w4) rfl rfl rfl rfl h8).trans <|
    (runs_if_f (a := 124) (b := 120) (L := [.ref 27, .int x1, .int x2, .int x3, .int r1, .null]) (st := []) (w := w4) rfl h9).trans <|
    (runs_stps (q' := (129, [.null, .int x1, .null, .null, .null, .int 1], [.int 1], w4)) 4 rfl).trans <|
    (runs_if_t (a := 139) (b := 132) (L := [.null, .int x1, .null, .null, .null, .int 1]) (st := []) (w := w4) rfl h10).trans <|
    (runs_stps (q' := (140, [.null, .null, .null, .null, .null, .null], [.int (-1)], w4)) 1 rfl).trans <|
    runs_ret rfl
theorem p_X5_after_0TTFFFF_R {ex : Ex} {p : Nat} {x1 : Int32} {x2 : Int32} {x3 : Int32} {r1 : Int32} {w1 : Wd} {r2 : Int32} {w2 : Wd} {r3 : Int32} {w3 : Wd} {r4 : Int32} {w4 : Wd} {r5 : Int32} {w5 : Wd} {w : Wd} (hp : scp p) (h1 : 5 ≤ x3) (h2 : ¬ x3 = 5) (h3 : x3 = 6) (h4 : ex 41 [.int x1] w = some (some (.int r1), w1)) (h5 : ¬ r1 ≤ 0) (h6 : ex 40 [.int x1] w1 = some (some (.int r2), w2)) (h7 : ex 40 [.int r1] w2 = some (some (.int r3), w3)) (h8 : ex 72 [.ref p, .int x2, .int ((1 <<< (r2 &&& 31)) ||| (1 <<< (r3 &&& 31)))] w3 = some (some (.int r4), w4)) (h9 : ¬ r4 = 0) (h10 : ¬ (1 : Int32) = 0) (h11 : ex 44 [.int x1] w4 = some (some (.int r5), w5)) : runs (T_X5_after ex) (0, [.ref p, .int x1, .int x2, .int x3, .null, .null], [], w) = some (some (.int r5), w5) := by
  rcases hp with rfl | rfl
  · exact (runs_stps (q' := (2, [.ref 20, .int x1, .int x2, .int x3, .null, .null], [.int 5, .int x3], w)) 2 rfl).trans <|
    (runs_if_t (a := 51) (b := 5) (L := [.ref 20, .int x1, .int x2, .int x3, .null, .null]) (st := []) (w := w) rfl h1).trans <|
    (runs_stps (q' := (53, [.ref 20, .int x1, .int x2, .int x3, .null, .null], [.int 5, .int x3], w)) 2 rfl).trans <|
    (runs_if_f (a := 56) (b := 81) (L := [.ref 20, .int x1, .int x2, .int x3, .null, .null]) (st := []) (w := w) rfl h2).trans <|
    (runs_stps (q' := (84, [.ref 20, .int x1, .int x2, .int x3, .null, .null], [.int 6, .int x3], w)) 2 rfl).trans <|
    (runs_if_t (a := 87) (b := 141) (L := [.ref 20, .int x1, .int x2, .int x3, .null, .null]) (st := []) (w := w) rfl h3).trans <|
    (runs_stps (q' := (88, [.ref 20, .int x1, .int x2, .int x3, .null, .null], [.int x1], w)) 1 rfl).trans <|
    (runs_callS (rv := some (.int r1)) (w' := w1) rfl rfl rfl h4).trans <|
    (runs_stps (q' := (95, [.ref 20, .int x1, .int x2, .int x3, .int r1, .null], [.int r1], w1)) 2 rfl).trans <|
    (runs_if_f (a := 124) (b := 98) (L := [.ref 20, .int x1, .int x2, .int x3, .int r1, .null]) (st := []) (w := w1) rfl h5).trans <|
    (runs_stps (q' := (102, [.ref 20, .int x1, .int x2, .int x3, .int r1, .null], [.int x1, .int 1, .int x2, .ref 20], w1)) 4 rfl).trans <|
    (runs_callS (rv := some (.int r2)) (w' := w2) rfl rfl rfl h6).trans <|
    (runs_stps (q' := (109, [.ref 20, .int x1, .int x2, .int x3, .int r1, .null], [.int r1, .int 1, .int (1 <<< (r2 &&& 31)), .int x2, .ref 20], w2)) 3 rfl).trans <|
    (runs_callS (rv := some (.int r3)) (w' := w3) rfl rfl rfl h7).trans <|
    (runs_stps (q' := (114, [.ref 20, .int x1, .int x2, .int x3, .int r1, .null], [.int ((1 <<< (r2 &&& 31)) ||| (1 <<< (r3 &&& 31))), .int x2, .ref 20], w3)) 2 rfl).trans <|
    (runs_callV (rv := some (.int r4)) (w' := w4) rfl rfl rfl rfl h8).trans <|
    (runs_if_f (a := 124) (b := 120) (L := [.ref 20, .int x1, .int x2, .int x3, .int r1, .null]) (st := []) (w := w4) rfl h9).trans <|
    (runs_stps (q' := (129, [.null, .int x1, .null, .null, .null, .int 1], [.int 1], w4)) 4 rfl).trans <|
    (runs_if_f (a := 139) (b := 132) (L := [.null, .int x1, .null, .null, .null, .int 1]) (st := []) (w := w4) rfl h10).trans <|
    (runs_stps (q' := (133, [.null, .int x1, .null, .null, .null, .int 1], [.int x1], w4)) 1 rfl).trans <|
    (runs_callS (rv := some (.int r5)) (w' := w5) rfl rfl rfl h11).trans <|
    (runs_stps (q' := (140, [.null, .int x1, .null, .null, .null, .int 1], [.int r5], w5)) 1 rfl).trans <|
    runs_ret rfl
  · exact (runs_stps (q' := (2, [.ref 27, .int x1, .int x2, .int x3, .null, .null], [.int 5, .int x3], w)) 2 rfl).trans <|
    (runs_if_t (a := 51) (b := 5) (L := [.ref 27, .int x1, .int x2, .int x3, .null, .null]) (st := []) (w := w) rfl h1).trans <|
    (runs_stps (q' := (53, [.ref 27, .int x1, .int x2, .int x3, .null, .null], [.int 5, .int x3], w)) 2 rfl).trans <|
    (runs_if_f (a := 56) (b := 81) (L := [.ref 27, .int x1, .int x2, .int x3, .null, .null]) (st := []) (w := w) rfl h2).trans <|
    (runs_stps (q' := (84, [.ref 27, .int x1, .int x2, .int x3, .null, .null], [.int 6, .int x3], w)) 2 rfl).trans <|
    (runs_if_t (a := 87) (b := 141) (L := [.ref 27, .int x1, .int x2, .int x3, .null, .null]) (st := []) (w := w) rfl h3).trans <|
    (runs_stps (q' := (88, [.ref 27, .int x1, .int x2, .int x3, .null, .null], [.int x1], w)) 1 rfl).trans <|
    (runs_callS (rv := some (.int r1)) (w' := w1) rfl rfl rfl h4).trans <|
    (runs_stps (q' := (95, [.ref 27, .int x1, .int x2, .int x3, .int r1, .null], [.int r1], w1)) 2 rfl).trans <|
    (runs_if_f (a := 124) (b := 98) (L := [.ref 27, .int x1, .int x2, .int x3, .int r1, .null]) (st := []) (w := w1) rfl h5).trans <|
    (runs_stps (q' := (102, [.ref 27, .int x1, .int x2, .int x3, .int r1, .null], [.int x1, .int 1, .int x2, .ref 27], w1)) 4 rfl).trans <|
    (runs_callS (rv := some (.int r2)) (w' := w2) rfl rfl rfl h6).trans <|
    (runs_stps (q' := (109, [.ref 27, .int x1, .int x2, .int x3, .int r1, .null], [.int r1, .int 1, .int (1 <<< (r2 &&& 31)), .int x2, .ref 27], w2)) 3 rfl).trans <|
    (runs_callS (rv := some (.int r3)) (w' := w3) rfl rfl rfl h7).trans <|
    (runs_stps (q' := (114, [.ref 27, .int x1, .int x2, .int x3, .int r1, .null], [.int ((1 <<< (r2 &&& 31)) ||| (1 <<< (r3 &&& 31))), .int x2, .ref 27], w3)) 2 rfl).trans <|
    (runs_callV (rv := some (.int r4)) (w' := w4) rfl rfl rfl rfl h8).trans <|
    (runs_if_f (a := 124) (b := 120) (L := [.ref 27, .int x1, .int x2, .int x3, .int r1, .null]) (st := []) (w := w4) rfl h9).trans <|
    (runs_stps (q' := (129, [.null, .int x1, .null, .null, .null, .int 1], [.int 1], w4)) 4 rfl).trans <|
    (runs_if_f (a := 139) (b := 132) (L := [.null, .int x1, .null, .null, .null, .int 1]) (st := []) (w := w4) rfl h10).trans <|
    (runs_stps (q' := (133, [.null, .int x1, .null, .null, .null, .int 1], [.int x1], w4)) 1 rfl).trans <|
    (runs_callS (rv := some (.int r5)) (w' := w5) rfl rfl rfl h11).trans <|
    (runs_stps (q' := (140, [.null, .int x1, .null, .null, .null, .int 1], [.int r5], w5)) 1 rfl).trans <|
    runs_ret rfl
theorem p_X5_after_0TFT_R {ex : Ex} {p : Nat} {x1 : Int32} {x2 : Int32} {x3 : Int32} {w : Wd} (hp : scp p) (h1 : 5 ≤ x3) (h2 : x3 = 5) (h3 : x1 ≤ 0) : runs (T_X5_after ex) (0, [.ref p, .int x1, .int x2, .int x3, .null, .null], [], w) = some (some (.int (-1)), w) := by
  rcases hp with rfl | rfl
  · exact (runs_stps (q' := (2, [.ref 20, .int x1, .int x2, .int x3, .null, .null], [.int 5, .int x3], w)) 2 rfl).trans <|
    (runs_if_t (a := 51) (b := 5) (L := [.ref 20, .int x1, .int x2, .int x3, .null, .null]) (st := []) (w := w) rfl h1).trans <|
    (runs_stps (q' := (53, [.ref 20, .int x1, .int x2, .int x3, .null, .null], [.int 5, .int x3], w)) 2 rfl).trans <|
    (runs_if_t (a := 56) (b := 81) (L := [.ref 20, .int x1, .int x2, .int x3, .null, .null]) (st := []) (w := w) rfl h2).trans <|
    (runs_stps (q' := (57, [.ref 20, .int x1, .int x2, .int x3, .null, .null], [.int x1], w)) 1 rfl).trans <|
    (runs_if_t (a := 79) (b := 60) (L := [.ref 20, .int x1, .int x2, .int x3, .null, .null]) (st := []) (w := w) rfl h3).trans <|
    (runs_stps (q' := (80, [.null, .null, .null, .null, .null, .null], [.int (-1)], w)) 1 rfl).trans <|
    runs_ret rfl
  · exact (runs_stps (q' := (2, [.ref 27, .int x1, .int x2, .int x3, .null, .null], [.int 5, .int x3], w)) 2 rfl).trans <|
    (runs_if_t (a := 51) (b := 5) (L := [.ref 27, .int x1, .int x2, .int x3, .null, .null]) (st := []) (w := w) rfl h1).trans <|
    (runs_stps (q' := (53, [.ref 27, .int x1, .int x2, .int x3, .null, .null], [.int 5, .int x3], w)) 2 rfl).trans <|
    (runs_if_t (a := 56) (b := 81) (L := [.ref 27, .int x1, .int x2, .int x3, .null, .null]) (st := []) (w := w) rfl h2).trans <|
    (runs_stps (q' := (57, [.ref 27, .int x1, .int x2, .int x3, .null, .null], [.int x1], w)) 1 rfl).trans <|
    (runs_if_t (a := 79) (b := 60) (L := [.ref 27, .int x1, .int x2, .int x3, .null, .null]) (st := []) (w := w) rfl h3).trans <|
    (runs_stps (q' := (80, [.null, .null, .null, .null, .null, .null], [.int (-1)], w)) 1 rfl).trans <|
    runs_ret rfl
theorem p_X5_after_0TFFT_R {ex : Ex} {p : Nat} {x1 : Int32} {x2 : Int32} {x3 : Int32} {r1 : Int32} {w1 : Wd} {r2 : Int32} {w2 : Wd} {w : Wd} (hp : scp p) (h1 : 5 ≤ x3) (h2 : x3 = 5) (h3 : ¬ x1 ≤ 0) (h4 : ex 40 [.int x1] w = some (some (.int r1), w1)) (h5 : ex 71 [.ref p, .int x2, .int r1] w1 = some (some (.int r2), w2)) (h6 : r2 = 0) : runs (T_X5_after ex) (0, [.ref p, .int x1, .int x2, .int x3, .null, .null], [], w) = some (some (.int (-1)), w2) := by
  rcases hp with rfl | rfl
  · exact (runs_stps (q' := (2, [.ref 20, .int x1, .int x2, .int x3, .null, .null], [.int 5, .int x3], w)) 2 rfl).trans <|
    (runs_if_t (a := 51) (b := 5) (L := [.ref 20, .int x1, .int x2, .int x3, .null, .null]) (st := []) (w := w) rfl h1).trans <|
    (runs_stps (q' := (53, [.ref 20, .int x1, .int x2, .int x3, .null, .null], [.int 5, .int x3], w)) 2 rfl).trans <|
    (runs_if_t (a := 56) (b := 81) (L := [.ref 20, .int x1, .int x2, .int x3, .null, .null]) (st := []) (w := w) rfl h2).trans <|
    (runs_stps (q' := (57, [.ref 20, .int x1, .int x2, .int x3, .null, .null], [.int x1], w)) 1 rfl).trans <|
    (runs_if_f (a := 79) (b := 60) (L := [.ref 20, .int x1, .int x2, .int x3, .null, .null]) (st := []) (w := w) rfl h3).trans <|
    (runs_stps (q' := (63, [.ref 20, .int x1, .int x2, .int x3, .null, .null], [.int x1, .int x2, .ref 20], w)) 3 rfl).trans <|
    (runs_callS (rv := some (.int r1)) (w' := w1) rfl rfl rfl h4).trans <|
    (runs_callV (rv := some (.int r2)) (w' := w2) rfl rfl rfl rfl h5).trans <|
    (runs_if_t (a := 79) (b := 72) (L := [.ref 20, .int x1, .int x2, .int x3, .null, .null]) (st := []) (w := w2) rfl h6).trans <|
    (runs_stps (q' := (80, [.null, .null, .null, .null, .null, .null], [.int (-1)], w2)) 1 rfl).trans <|
    runs_ret rfl
  · exact (runs_stps (q' := (2, [.ref 27, .int x1, .int x2, .int x3, .null, .null], [.int 5, .int x3], w)) 2 rfl).trans <|
    (runs_if_t (a := 51) (b := 5) (L := [.ref 27, .int x1, .int x2, .int x3, .null, .null]) (st := []) (w := w) rfl h1).trans <|
    (runs_stps (q' := (53, [.ref 27, .int x1, .int x2, .int x3, .null, .null], [.int 5, .int x3], w)) 2 rfl).trans <|
    (runs_if_t (a := 56) (b := 81) (L := [.ref 27, .int x1, .int x2, .int x3, .null, .null]) (st := []) (w := w) rfl h2).trans <|
    (runs_stps (q' := (57, [.ref 27, .int x1, .int x2, .int x3, .null, .null], [.int x1], w)) 1 rfl).trans <|
    (runs_if_f (a := 79) (b := 60) (L := [.ref 27, .int x1, .int x2, .int x3, .null, .null]) (st := []) (w := w) rfl h3).trans <|
    (runs_stps (q' := (63, [.ref 27, .int x1, .int x2, .int x3, .null, .null], [.int x1, .int x2, .ref 27], w)) 3 rfl).trans <|
    (runs_callS (rv := some (.int r1)) (w' := w1) rfl rfl rfl h4).trans <|
    (runs_callV (rv := some (.int r2)) (w' := w2) rfl rfl rfl rfl h5).trans <|
    (runs_if_t (a := 79) (b := 72) (L := [.ref 27, .int x1, .int x2, .int x3, .null, .null]) (st := []) (w := w2) rfl h6).trans <|
    (runs_stps (q' := (80, [.null, .null, .null, .null, .null, .null], [.int (-1)], w2)) 1 rfl).trans <|
    runs_ret rfl
theorem p_X5_after_0TFFF_R {ex : Ex} {p : Nat} {x1 : Int32} {x2 : Int32} {x3 : Int32} {r1 : Int32} {w1 : Wd} {r2 : Int32} {w2 : Wd} {r3 : Int32} {w3 : Wd} {w : Wd} (hp : scp p) (h1 : 5 ≤ x3) (h2 : x3 = 5) (h3 : ¬ x1 ≤ 0) (h4 : ex 40 [.int x1] w = some (some (.int r1), w1)) (h5 : ex 71 [.ref p, .int x2, .int r1] w1 = some (some (.int r2), w2)) (h6 : ¬ r2 = 0) (h7 : ex 41 [.int x1] w2 = some (some (.int r3), w3)) : runs (T_X5_after ex) (0, [.ref p, .int x1, .int x2, .int x3, .null, .null], [], w) = some (some (.int r3), w3) := by
  rcases hp with rfl | rfl
  · exact (runs_stps (q' := (2, [.ref 20, .int x1, .int x2, .int x3, .null, .null], [.int 5, .int x3], w)) 2 rfl).trans <|
    (runs_if_t (a := 51) (b := 5) (L := [.ref 20, .int x1, .int x2, .int x3, .null, .null]) (st := []) (w := w) rfl h1).trans <|
    (runs_stps (q' := (53, [.ref 20, .int x1, .int x2, .int x3, .null, .null], [.int 5, .int x3], w)) 2 rfl).trans <|
    (runs_if_t (a := 56) (b := 81) (L := [.ref 20, .int x1, .int x2, .int x3, .null, .null]) (st := []) (w := w) rfl h2).trans <|
    (runs_stps (q' := (57, [.ref 20, .int x1, .int x2, .int x3, .null, .null], [.int x1], w)) 1 rfl).trans <|
    (runs_if_f (a := 79) (b := 60) (L := [.ref 20, .int x1, .int x2, .int x3, .null, .null]) (st := []) (w := w) rfl h3).trans <|
    (runs_stps (q' := (63, [.ref 20, .int x1, .int x2, .int x3, .null, .null], [.int x1, .int x2, .ref 20], w)) 3 rfl).trans <|
    (runs_callS (rv := some (.int r1)) (w' := w1) rfl rfl rfl h4).trans <|
    (runs_callV (rv := some (.int r2)) (w' := w2) rfl rfl rfl rfl h5).trans <|
    (runs_if_f (a := 79) (b := 72) (L := [.ref 20, .int x1, .int x2, .int x3, .null, .null]) (st := []) (w := w2) rfl h6).trans <|
    (runs_stps (q' := (73, [.ref 20, .int x1, .int x2, .int x3, .null, .null], [.int x1], w2)) 1 rfl).trans <|
    (runs_callS (rv := some (.int r3)) (w' := w3) rfl rfl rfl h7).trans <|
    (runs_stps (q' := (80, [.ref 20, .int x1, .int x2, .int x3, .null, .null], [.int r3], w3)) 1 rfl).trans <|
    runs_ret rfl
  · exact (runs_stps (q' := (2, [.ref 27, .int x1, .int x2, .int x3, .null, .null], [.int 5, .int x3], w)) 2 rfl).trans <|
    (runs_if_t (a := 51) (b := 5) (L := [.ref 27, .int x1, .int x2, .int x3, .null, .null]) (st := []) (w := w) rfl h1).trans <|
    (runs_stps (q' := (53, [.ref 27, .int x1, .int x2, .int x3, .null, .null], [.int 5, .int x3], w)) 2 rfl).trans <|
    (runs_if_t (a := 56) (b := 81) (L := [.ref 27, .int x1, .int x2, .int x3, .null, .null]) (st := []) (w := w) rfl h2).trans <|
    (runs_stps (q' := (57, [.ref 27, .int x1, .int x2, .int x3, .null, .null], [.int x1], w)) 1 rfl).trans <|
    (runs_if_f (a := 79) (b := 60) (L := [.ref 27, .int x1, .int x2, .int x3, .null, .null]) (st := []) (w := w) rfl h3).trans <|
    (runs_stps (q' := (63, [.ref 27, .int x1, .int x2, .int x3, .null, .null], [.int x1, .int x2, .ref 27], w)) 3 rfl).trans <|
    (runs_callS (rv := some (.int r1)) (w' := w1) rfl rfl rfl h4).trans <|
    (runs_callV (rv := some (.int r2)) (w' := w2) rfl rfl rfl rfl h5).trans <|
    (runs_if_f (a := 79) (b := 72) (L := [.ref 27, .int x1, .int x2, .int x3, .null, .null]) (st := []) (w := w2) rfl h6).trans <|
    (runs_stps (q' := (73, [.ref 27, .int x1, .int x2, .int x3, .null, .null], [.int x1], w2)) 1 rfl).trans <|
    (runs_callS (rv := some (.int r3)) (w' := w3) rfl rfl rfl h7).trans <|
    (runs_stps (q' := (80, [.ref 27, .int x1, .int x2, .int x3, .null, .null], [.int r3], w3)) 1 rfl).trans <|
    runs_ret rfl
theorem p_X5_after_0FTT_R {ex : Ex} {p : Nat} {x1 : Int32} {x2 : Int32} {x3 : Int32} {r1 : Int32} {w1 : Wd} {w : Wd} (hp : scp p) (h1 : ¬ 5 ≤ x3) (h2 : ex 59 [.ref p, .int x3] w = some (some (.int r1), w1)) (h3 : r1 = 0) (h4 : (0 : Int32) = 0) : runs (T_X5_after ex) (0, [.ref p, .int x1, .int x2, .int x3, .null, .null], [], w) = some (some (.int (-1)), w1) := by
  rcases hp with rfl | rfl
  · exact (runs_stps (q' := (2, [.ref 20, .int x1, .int x2, .int x3, .null, .null], [.int 5, .int x3], w)) 2 rfl).trans <|
    (runs_if_f (a := 51) (b := 5) (L := [.ref 20, .int x1, .int x2, .int x3, .null, .null]) (st := []) (w := w) rfl h1).trans <|
    (runs_stps (q' := (7, [.ref 20, .int x1, .int x2, .int x3, .null, .null], [.int x3, .ref 20], w)) 2 rfl).trans <|
    (runs_callV (rv := some (.int r1)) (w' := w1) rfl rfl rfl rfl h2).trans <|
    (runs_if_t (a := 33) (b := 13) (L := [.ref 20, .int x1, .int x2, .int x3, .null, .null]) (st := []) (w := w1) rfl h3).trans <|
    (runs_stps (q' := (38, [.null, .int x1, .null, .int x3, .int 0, .null], [.int 0], w1)) 3 rfl).trans <|
    (runs_if_t (a := 49) (b := 41) (L := [.null, .int x1, .null, .int x3, .int 0, .null]) (st := []) (w := w1) rfl h4).trans <|
    (runs_stps (q' := (50, [.null, .null, .null, .null, .null, .null], [.int (-1)], w1)) 1 rfl).trans <|
    runs_ret rfl
  · exact (runs_stps (q' := (2, [.ref 27, .int x1, .int x2, .int x3, .null, .null], [.int 5, .int x3], w)) 2 rfl).trans <|
    (runs_if_f (a := 51) (b := 5) (L := [.ref 27, .int x1, .int x2, .int x3, .null, .null]) (st := []) (w := w) rfl h1).trans <|
    (runs_stps (q' := (7, [.ref 27, .int x1, .int x2, .int x3, .null, .null], [.int x3, .ref 27], w)) 2 rfl).trans <|
    (runs_callV (rv := some (.int r1)) (w' := w1) rfl rfl rfl rfl h2).trans <|
    (runs_if_t (a := 33) (b := 13) (L := [.ref 27, .int x1, .int x2, .int x3, .null, .null]) (st := []) (w := w1) rfl h3).trans <|
    (runs_stps (q' := (38, [.null, .int x1, .null, .int x3, .int 0, .null], [.int 0], w1)) 3 rfl).trans <|
    (runs_if_t (a := 49) (b := 41) (L := [.null, .int x1, .null, .int x3, .int 0, .null]) (st := []) (w := w1) rfl h4).trans <|
    (runs_stps (q' := (50, [.null, .null, .null, .null, .null, .null], [.int (-1)], w1)) 1 rfl).trans <|
    runs_ret rfl
theorem p_X5_after_0FTF_R {ex : Ex} {p : Nat} {x1 : Int32} {x2 : Int32} {x3 : Int32} {r1 : Int32} {w1 : Wd} {r2 : Int32} {w2 : Wd} {w : Wd} (hp : scp p) (h1 : ¬ 5 ≤ x3) (h2 : ex 59 [.ref p, .int x3] w = some (some (.int r1), w1)) (h3 : r1 = 0) (h4 : ¬ (0 : Int32) = 0) (h5 : ex 39 [.int x1, .int x3] w1 = some (some (.int r2), w2)) : runs (T_X5_after ex) (0, [.ref p, .int x1, .int x2, .int x3, .null, .null], [], w) = some (some (.int r2), w2) := by
  rcases hp with rfl | rfl
  · exact (runs_stps (q' := (2, [.ref 20, .int x1, .int x2, .int x3, .null, .null], [.int 5, .int x3], w)) 2 rfl).trans <|
    (runs_if_f (a := 51) (b := 5) (L := [.ref 20, .int x1, .int x2, .int x3, .null, .null]) (st := []) (w := w) rfl h1).trans <|
    (runs_stps (q' := (7, [.ref 20, .int x1, .int x2, .int x3, .null, .null], [.int x3, .ref 20], w)) 2 rfl).trans <|
    (runs_callV (rv := some (.int r1)) (w' := w1) rfl rfl rfl rfl h2).trans <|
    (runs_if_t (a := 33) (b := 13) (L := [.ref 20, .int x1, .int x2, .int x3, .null, .null]) (st := []) (w := w1) rfl h3).trans <|
    (runs_stps (q' := (38, [.null, .int x1, .null, .int x3, .int 0, .null], [.int 0], w1)) 3 rfl).trans <|
    (runs_if_f (a := 49) (b := 41) (L := [.null, .int x1, .null, .int x3, .int 0, .null]) (st := []) (w := w1) rfl h4).trans <|
    (runs_stps (q' := (43, [.null, .int x1, .null, .int x3, .int 0, .null], [.int x3, .int x1], w1)) 2 rfl).trans <|
    (runs_callS (rv := some (.int r2)) (w' := w2) rfl rfl rfl h5).trans <|
    (runs_stps (q' := (50, [.null, .int x1, .null, .int x3, .int 0, .null], [.int r2], w2)) 1 rfl).trans <|
    runs_ret rfl
  · exact (runs_stps (q' := (2, [.ref 27, .int x1, .int x2, .int x3, .null, .null], [.int 5, .int x3], w)) 2 rfl).trans <|
    (runs_if_f (a := 51) (b := 5) (L := [.ref 27, .int x1, .int x2, .int x3, .null, .null]) (st := []) (w := w) rfl h1).trans <|
    (runs_stps (q' := (7, [.ref 27, .int x1, .int x2, .int x3, .null, .null], [.int x3, .ref 27], w)) 2 rfl).trans <|
    (runs_callV (rv := some (.int r1)) (w' := w1) rfl rfl rfl rfl h2).trans <|
    (runs_if_t (a := 33) (b := 13) (L := [.ref 27, .int x1, .int x2, .int x3, .null, .null]) (st := []) (w := w1) rfl h3).trans <|
    (runs_stps (q' := (38, [.null, .int x1, .null, .int x3, .int 0, .null], [.int 0], w1)) 3 rfl).trans <|
    (runs_if_f (a := 49) (b := 41) (L := [.null, .int x1, .null, .int x3, .int 0, .null]) (st := []) (w := w1) rfl h4).trans <|
    (runs_stps (q' := (43, [.null, .int x1, .null, .int x3, .int 0, .null], [.int x3, .int x1], w1)) 2 rfl).trans <|
    (runs_callS (rv := some (.int r2)) (w' := w2) rfl rfl rfl h5).trans <|
    (runs_stps (q' := (50, [.null, .int x1, .null, .int x3, .int 0, .null], [.int r2], w2)) 1 rfl).trans <|
    runs_ret rfl
theorem p_X5_after_0FFTT_R {ex : Ex} {p : Nat} {x1 : Int32} {x2 : Int32} {x3 : Int32} {r1 : Int32} {w1 : Wd} {r2 : Int32} {w2 : Wd} {w : Wd} (hp : scp p) (h1 : ¬ 5 ≤ x3) (h2 : ex 59 [.ref p, .int x3] w = some (some (.int r1), w1)) (h3 : ¬ r1 = 0) (h4 : ex 38 [.int x1] w1 = some (some (.int r2), w2)) (h5 : ¬ r2 = 0) (h6 : (0 : Int32) = 0) : runs (T_X5_after ex) (0, [.ref p, .int x1, .int x2, .int x3, .null, .null], [], w) = some (some (.int (-1)), w2) := by
  rcases hp with rfl | rfl
  · exact (runs_stps (q' := (2, [.ref 20, .int x1, .int x2, .int x3, .null, .null], [.int 5, .int x3], w)) 2 rfl).trans <|
    (runs_if_f (a := 51) (b := 5) (L := [.ref 20, .int x1, .int x2, .int x3, .null, .null]) (st := []) (w := w) rfl h1).trans <|
    (runs_stps (q' := (7, [.ref 20, .int x1, .int x2, .int x3, .null, .null], [.int x3, .ref 20], w)) 2 rfl).trans <|
    (runs_callV (rv := some (.int r1)) (w' := w1) rfl rfl rfl rfl h2).trans <|
    (runs_if_f (a := 33) (b := 13) (L := [.ref 20, .int x1, .int x2, .int x3, .null, .null]) (st := []) (w := w1) rfl h3).trans <|
    (runs_stps (q' := (14, [.ref 20, .int x1, .int x2, .int x3, .null, .null], [.int x1], w1)) 1 rfl).trans <|
    (runs_callS (rv := some (.int r2)) (w' := w2) rfl rfl rfl h4).trans <|
    (runs_if_f (a := 20) (b := 33) (L := [.ref 20, .int x1, .int x2, .int x3, .null, .null]) (st := []) (w := w2) rfl h5).trans <|
    (runs_stps (q' := (38, [.null, .int x1, .null, .int x3, .int 0, .null], [.int 0], w2)) 3 rfl).trans <|
    (runs_if_t (a := 49) (b := 41) (L := [.null, .int x1, .null, .int x3, .int 0, .null]) (st := []) (w := w2) rfl h6).trans <|
    (runs_stps (q' := (50, [.null, .null, .null, .null, .null, .null], [.int (-1)], w2)) 1 rfl).trans <|
    runs_ret rfl
  · exact (runs_stps (q' := (2, [.ref 27, .int x1, .int x2, .int x3, .null, .null], [.int 5, .int x3], w)) 2 rfl).trans <|
    (runs_if_f (a := 51) (b := 5) (L := [.ref 27, .int x1, .int x2, .int x3, .null, .null]) (st := []) (w := w) rfl h1).trans <|
    (runs_stps (q' := (7, [.ref 27, .int x1, .int x2, .int x3, .null, .null], [.int x3, .ref 27], w)) 2 rfl).trans <|
    (runs_callV (rv := some (.int r1)) (w' := w1) rfl rfl rfl rfl h2).trans <|
    (runs_if_f (a := 33) (b := 13) (L := [.ref 27, .int x1, .int x2, .int x3, .null, .null]) (st := []) (w := w1) rfl h3).trans <|
    (runs_stps (q' := (14, [.ref 27, .int x1, .int x2, .int x3, .null, .null], [.int x1], w1)) 1 rfl).trans <|
    (runs_callS (rv := some (.int r2)) (w' := w2) rfl rfl rfl h4).trans <|
    (runs_if_f (a := 20) (b := 33) (L := [.ref 27, .int x1, .int x2, .int x3, .null, .null]) (st := []) (w := w2) rfl h5).trans <|
    (runs_stps (q' := (38, [.null, .int x1, .null, .int x3, .int 0, .null], [.int 0], w2)) 3 rfl).trans <|
    (runs_if_t (a := 49) (b := 41) (L := [.null, .int x1, .null, .int x3, .int 0, .null]) (st := []) (w := w2) rfl h6).trans <|
    (runs_stps (q' := (50, [.null, .null, .null, .null, .null, .null], [.int (-1)], w2)) 1 rfl).trans <|
    runs_ret rfl
theorem p_X5_after_0FFTF_R {ex : Ex} {p : Nat} {x1 : Int32} {x2 : Int32} {x3 : Int32} {r1 : Int32} {w1 : Wd} {r2 : Int32} {w2 : Wd} {r3 : Int32} {w3 : Wd} {w : Wd} (hp : scp p) (h1 : ¬ 5 ≤ x3) (h2 : ex 59 [.ref p, .int x3] w = some (some (.int r1), w1)) (h3 : ¬ r1 = 0) (h4 : ex 38 [.int x1] w1 = some (some (.int r2), w2)) (h5 : ¬ r2 = 0) (h6 : ¬ (0 : Int32) = 0) (h7 : ex 39 [.int x1, .int x3] w2 = some (some (.int r3), w3)) : runs (T_X5_after ex) (0, [.ref p, .int x1, .int x2, .int x3, .null, .null], [], w) = some (some (.int r3), w3) := by
  rcases hp with rfl | rfl
  · exact (runs_stps (q' := (2, [.ref 20, .int x1, .int x2, .int x3, .null, .null], [.int 5, .int x3], w)) 2 rfl).trans <|
    (runs_if_f (a := 51) (b := 5) (L := [.ref 20, .int x1, .int x2, .int x3, .null, .null]) (st := []) (w := w) rfl h1).trans <|
    (runs_stps (q' := (7, [.ref 20, .int x1, .int x2, .int x3, .null, .null], [.int x3, .ref 20], w)) 2 rfl).trans <|
    (runs_callV (rv := some (.int r1)) (w' := w1) rfl rfl rfl rfl h2).trans <|
    (runs_if_f (a := 33) (b := 13) (L := [.ref 20, .int x1, .int x2, .int x3, .null, .null]) (st := []) (w := w1) rfl h3).trans <|
    (runs_stps (q' := (14, [.ref 20, .int x1, .int x2, .int x3, .null, .null], [.int x1], w1)) 1 rfl).trans <|
    (runs_callS (rv := some (.int r2)) (w' := w2) rfl rfl rfl h4).trans <|
    (runs_if_f (a := 20) (b := 33) (L := [.ref 20, .int x1, .int x2, .int x3, .null, .null]) (st := []) (w := w2) rfl h5).trans <|
    (runs_stps (q' := (38, [.null, .int x1, .null, .int x3, .int 0, .null], [.int 0], w2)) 3 rfl).trans <|
    (runs_if_f (a := 49) (b := 41) (L := [.null, .int x1, .null, .int x3, .int 0, .null]) (st := []) (w := w2) rfl h6).trans <|
    (runs_stps (q' := (43, [.null, .int x1, .null, .int x3, .int 0, .null], [.int x3, .int x1], w2)) 2 rfl).trans <|
    (runs_callS (rv := some (.int r3)) (w' := w3) rfl rfl rfl h7).trans <|
    (runs_stps (q' := (50, [.null, .int x1, .null, .int x3, .int 0, .null], [.int r3], w3)) 1 rfl).trans <|
    runs_ret rfl
  · exact (runs_stps (q' := (2, [.ref 27, .int x1, .int x2, .int x3, .null, .null], [.int 5, .int x3], w)) 2 rfl).trans <|
    (runs_if_f (a := 51) (b := 5) (L := [.ref 27, .int x1, .int x2, .int x3, .null, .null]) (st := []) (w := w) rfl h1).trans <|
    (runs_stps (q' := (7, [.ref 27, .int x1, .int x2, .int x3, .null, .null], [.int x3, .ref 27], w)) 2 rfl).trans <|
    (runs_callV (rv := some (.int r1)) (w' := w1) rfl rfl rfl rfl h2).trans <|
    (runs_if_f (a := 33) (b := 13) (L := [.ref 27, .int x1, .int x2, .int x3, .null, .null]) (st := []) (w := w1) rfl h3).trans <|
    (runs_stps (q' := (14, [.ref 27, .int x1, .int x2, .int x3, .null, .null], [.int x1], w1)) 1 rfl).trans <|
    (runs_callS (rv := some (.int r2)) (w' := w2) rfl rfl rfl h4).trans <|
    (runs_if_f (a := 20) (b := 33) (L := [.ref 27, .int x1, .int x2, .int x3, .null, .null]) (st := []) (w := w2) rfl h5).trans <|
    (runs_stps (q' := (38, [.null, .int x1, .null, .int x3, .int 0, .null], [.int 0], w2)) 3 rfl).trans <|
    (runs_if_f (a := 49) (b := 41) (L := [.null, .int x1, .null, .int x3, .int 0, .null]) (st := []) (w := w2) rfl h6).trans <|
    (runs_stps (q' := (43, [.null, .int x1, .null, .int x3, .int 0, .null], [.int x3, .int x1], w2)) 2 rfl).trans <|
    (runs_callS (rv := some (.int r3)) (w' := w3) rfl rfl rfl h7).trans <|
    (runs_stps (q' := (50, [.null, .int x1, .null, .int x3, .int 0, .null], [.int r3], w3)) 1 rfl).trans <|
    runs_ret rfl
theorem p_X5_after_0FFFTT_R {ex : Ex} {p : Nat} {x1 : Int32} {x2 : Int32} {x3 : Int32} {r1 : Int32} {w1 : Wd} {r2 : Int32} {w2 : Wd} {r3 : Int32} {w3 : Wd} {w : Wd} (hp : scp p) (h1 : ¬ 5 ≤ x3) (h2 : ex 59 [.ref p, .int x3] w = some (some (.int r1), w1)) (h3 : ¬ r1 = 0) (h4 : ex 38 [.int x1] w1 = some (some (.int r2), w2)) (h5 : r2 = 0) (h6 : ex 71 [.ref p, .int x2, .int x3] w2 = some (some (.int r3), w3)) (h7 : r3 = 0) (h8 : (0 : Int32) = 0) : runs (T_X5_after ex) (0, [.ref p, .int x1, .int x2, .int x3, .null, .null], [], w) = some (some (.int (-1)), w3) := by
  rcases hp with rfl | rfl
  · exact (runs_stps (q' := (2, [.ref 20, .int x1, .int x2, .int x3, .null, .null], [.int 5, .int x3], w)) 2 rfl).trans <|
    (runs_if_f (a := 51) (b := 5) (L := [.ref 20, .int x1, .int x2, .int x3, .null, .null]) (st := []) (w := w) rfl h1).trans <|
    (runs_stps (q' := (7, [.ref 20, .int x1, .int x2, .int x3, .null, .null], [.int x3, .ref 20], w)) 2 rfl).trans <|
    (runs_callV (rv := some (.int r1)) (w' := w1) rfl rfl rfl rfl h2).trans <|
    (runs_if_f (a := 33) (b := 13) (L := [.ref 20, .int x1, .int x2, .int x3, .null, .null]) (st := []) (w := w1) rfl h3).trans <|
    (runs_stps (q' := (14, [.ref 20, .int x1, .int x2, .int x3, .null, .null], [.int x1], w1)) 1 rfl).trans <|
    (runs_callS (rv := some (.int r2)) (w' := w2) rfl rfl rfl h4).trans <|
    (runs_if_t (a := 20) (b := 33) (L := [.ref 20, .int x1, .int x2, .int x3, .null, .null]) (st := []) (w := w2) rfl h5).trans <|
    (runs_stps (q' := (23, [.ref 20, .int x1, .int x2, .int x3, .null, .null], [.int x3, .int x2, .ref 20], w2)) 3 rfl).trans <|
    (runs_callV (rv := some (.int r3)) (w' := w3) rfl rfl rfl rfl h6).trans <|
    (runs_if_t (a := 33) (b := 29) (L := [.ref 20, .int x1, .int x2, .int x3, .null, .null]) (st := []) (w := w3) rfl h7).trans <|
    (runs_stps (q' := (38, [.null, .int x1, .null, .int x3, .int 0, .null], [.int 0], w3)) 3 rfl).trans <|
    (runs_if_t (a := 49) (b := 41) (L := [.null, .int x1, .null, .int x3, .int 0, .null]) (st := []) (w := w3) rfl h8).trans <|
    (runs_stps (q' := (50, [.null, .null, .null, .null, .null, .null], [.int (-1)], w3)) 1 rfl).trans <|
    runs_ret rfl
  · exact (runs_stps (q' := (2, [.ref 27, .int x1, .int x2, .int x3, .null, .null], [.int 5, .int x3], w)) 2 rfl).trans <|
    (runs_if_f (a := 51) (b := 5) (L := [.ref 27, .int x1, .int x2, .int x3, .null, .null]) (st := []) (w := w) rfl h1).trans <|
    (runs_stps (q' := (7, [.ref 27, .int x1, .int x2, .int x3, .null, .null], [.int x3, .ref 27], w)) 2 rfl).trans <|
    (runs_callV (rv := some (.int r1)) (w' := w1) rfl rfl rfl rfl h2).trans <|
    (runs_if_f (a := 33) (b := 13) (L := [.ref 27, .int x1, .int x2, .int x3, .null, .null]) (st := []) (w := w1) rfl h3).trans <|
    (runs_stps (q' := (14, [.ref 27, .int x1, .int x2, .int x3, .null, .null], [.int x1], w1)) 1 rfl).trans <|
    (runs_callS (rv := some (.int r2)) (w' := w2) rfl rfl rfl h4).trans <|
    (runs_if_t (a := 20) (b := 33) (L := [.ref 27, .int x1, .int x2, .int x3, .null, .null]) (st := []) (w := w2) rfl h5).trans <|
    (runs_stps (q' := (23, [.ref 27, .int x1, .int x2, .int x3, .null, .null], [.int x3, .int x2, .ref 27], w2)) 3 rfl).trans <|
    (runs_callV (rv := some (.int r3)) (w' := w3) rfl rfl rfl rfl h6).trans <|
    (runs_if_t (a := 33) (b := 29) (L := [.ref 27, .int x1, .int x2, .int x3, .null, .null]) (st := []) (w := w3) rfl h7).trans <|
    (runs_stps (q' := (38, [.null, .int x1, .null, .int x3, .int 0, .null], [.int 0], w3)) 3 rfl).trans <|
    (runs_if_t (a := 49) (b := 41) (L := [.null, .int x1, .null, .int x3, .int 0, .null]) (st := []) (w := w3) rfl h8).trans <|
    (runs_stps (q' := (50, [.null, .null, .null, .null, .null, .null], [.int (-1)], w3)) 1 rfl).trans <|
    runs_ret rfl
theorem p_X5_after_0FFFTF_R {ex : Ex} {p : Nat} {x1 : Int32} {x2 : Int32} {x3 : Int32} {r1 : Int32} {w1 : Wd} {r2 : Int32} {w2 : Wd} {r3 : Int32} {w3 : Wd} {r4 : Int32} {w4 : Wd} {w : Wd} (hp : scp p) (h1 : ¬ 5 ≤ x3) (h2 : ex 59 [.ref p, .int x3] w = some (some (.int r1), w1)) (h3 : ¬ r1 = 0) (h4 : ex 38 [.int x1] w1 = some (some (.int r2), w2)) (h5 : r2 = 0) (h6 : ex 71 [.ref p, .int x2, .int x3] w2 = some (some (.int r3), w3)) (h7 : r3 = 0) (h8 : ¬ (0 : Int32) = 0) (h9 : ex 39 [.int x1, .int x3] w3 = some (some (.int r4), w4)) : runs (T_X5_after ex) (0, [.ref p, .int x1, .int x2, .int x3, .null, .null], [], w) = some (some (.int r4), w4) := by
  rcases hp with rfl | rfl
  · exact (runs_stps (q' := (2, [.ref 20, .int x1, .int x2, .int x3, .null, .null], [.int 5, .int x3], w)) 2 rfl).trans <|
    (runs_if_f (a := 51) (b := 5) (L := [.ref 20, .int x1, .int x2, .int x3, .null, .null]) (st := []) (w := w) rfl h1).trans <|
    (runs_stps (q' := (7, [.ref 20, .int x1, .int x2, .int x3, .null, .null], [.int x3, .ref 20], w)) 2 rfl).trans <|
    (runs_callV (rv := some (.int r1)) (w' := w1) rfl rfl rfl rfl h2).trans <|
    (runs_if_f (a := 33) (b := 13) (L := [.ref 20, .int x1, .int x2, .int x3, .null, .null]) (st := []) (w := w1) rfl h3).trans <|
    (runs_stps (q' := (14, [.ref 20, .int x1, .int x2, .int x3, .null, .null], [.int x1], w1)) 1 rfl).trans <|
    (runs_callS (rv := some (.int r2)) (w' := w2) rfl rfl rfl h4).trans <|
    (runs_if_t (a := 20) (b := 33) (L := [.ref 20, .int x1, .int x2, .int x3, .null, .null]) (st := []) (w := w2) rfl h5).trans <|
    (runs_stps (q' := (23, [.ref 20, .int x1, .int x2, .int x3, .null, .null], [.int x3, .int x2, .ref 20], w2)) 3 rfl).trans <|
    (runs_callV (rv := some (.int r3)) (w' := w3) rfl rfl rfl rfl h6).trans <|
    (runs_if_t (a := 33) (b := 29) (L := [.ref 20, .int x1, .int x2, .int x3, .null, .null]) (st := []) (w := w3) rfl h7).trans <|
    (runs_stps (q' := (38, [.null, .int x1, .null, .int x3, .int 0, .null], [.int 0], w3)) 3 rfl).trans <|
    (runs_if_f (a := 49) (b := 41) (L := [.null, .int x1, .null, .int x3, .int 0, .null]) (st := []) (w := w3) rfl h8).trans <|
    (runs_stps (q' := (43, [.null, .int x1, .null, .int x3, .int 0, .null], [.int x3, .int x1], w3)) 2 rfl).trans <|
    (runs_callS (rv := some (.int r4)) (w' := w4) rfl rfl rfl h9).trans <|
    (runs_stps (q' := (50, [.null, .int x1, .null, .int x3, .int 0, .null], [.int r4], w4)) 1 rfl).trans <|
    runs_ret rfl
  · exact (runs_stps (q' := (2, [.ref 27, .int x1, .int x2, .int x3, .null, .null], [.int 5, .int x3], w)) 2 rfl).trans <|
    (runs_if_f (a := 51) (b := 5) (L := [.ref 27, .int x1, .int x2, .int x3, .null, .null]) (st := []) (w := w) rfl h1).trans <|
    (runs_stps (q' := (7, [.ref 27, .int x1, .int x2, .int x3, .null, .null], [.int x3, .ref 27], w)) 2 rfl).trans <|
    (runs_callV (rv := some (.int r1)) (w' := w1) rfl rfl rfl rfl h2).trans <|
    (runs_if_f (a := 33) (b := 13) (L := [.ref 27, .int x1, .int x2, .int x3, .null, .null]) (st := []) (w := w1) rfl h3).trans <|
    (runs_stps (q' := (14, [.ref 27, .int x1, .int x2, .int x3, .null, .null], [.int x1], w1)) 1 rfl).trans <|
    (runs_callS (rv := some (.int r2)) (w' := w2) rfl rfl rfl h4).trans <|
    (runs_if_t (a := 20) (b := 33) (L := [.ref 27, .int x1, .int x2, .int x3, .null, .null]) (st := []) (w := w2) rfl h5).trans <|
    (runs_stps (q' := (23, [.ref 27, .int x1, .int x2, .int x3, .null, .null], [.int x3, .int x2, .ref 27], w2)) 3 rfl).trans <|
    (runs_callV (rv := some (.int r3)) (w' := w3) rfl rfl rfl rfl h6).trans <|
    (runs_if_t (a := 33) (b := 29) (L := [.ref 27, .int x1, .int x2, .int x3, .null, .null]) (st := []) (w := w3) rfl h7).trans <|
    (runs_stps (q' := (38, [.null, .int x1, .null, .int x3, .int 0, .null], [.int 0], w3)) 3 rfl).trans <|
    (runs_if_f (a := 49) (b := 41) (L := [.null, .int x1, .null, .int x3, .int 0, .null]) (st := []) (w := w3) rfl h8).trans <|
    (runs_stps (q' := (43, [.null, .int x1, .null, .int x3, .int 0, .null], [.int x3, .int x1], w3)) 2 rfl).trans <|
    (runs_callS (rv := some (.int r4)) (w' := w4) rfl rfl rfl h9).trans <|
    (runs_stps (q' := (50, [.null, .int x1, .null, .int x3, .int 0, .null], [.int r4], w4)) 1 rfl).trans <|
    runs_ret rfl
theorem p_X5_after_0FFFFT_R {ex : Ex} {p : Nat} {x1 : Int32} {x2 : Int32} {x3 : Int32} {r1 : Int32} {w1 : Wd} {r2 : Int32} {w2 : Wd} {r3 : Int32} {w3 : Wd} {w : Wd} (hp : scp p) (h1 : ¬ 5 ≤ x3) (h2 : ex 59 [.ref p, .int x3] w = some (some (.int r1), w1)) (h3 : ¬ r1 = 0) (h4 : ex 38 [.int x1] w1 = some (some (.int r2), w2)) (h5 : r2 = 0) (h6 : ex 71 [.ref p, .int x2, .int x3] w2 = some (some (.int r3), w3)) (h7 : ¬ r3 = 0) (h8 : (1 : Int32) = 0) : runs (T_X5_after ex) (0, [.ref p, .int x1, .int x2, .int x3, .null, .null], [], w) = some (some (.int (-1)), w3) := by
  rcases hp with rfl | rfl
  · exact (runs_stps (q' := (2, [.ref 20, .int x1, .int x2, .int x3, .null, .null], [.int 5, .int x3], w)) 2 rfl).trans <|
    (runs_if_f (a := 51) (b := 5) (L := [.ref 20, .int x1, .int x2, .int x3, .null, .null]) (st := []) (w := w) rfl h1).trans <|
    (runs_stps (q' := (7, [.ref 20, .int x1, .int x2, .int x3, .null, .null], [.int x3, .ref 20], w)) 2 rfl).trans <|
    (runs_callV (rv := some (.int r1)) (w' := w1) rfl rfl rfl rfl h2).trans <|
    (runs_if_f (a := 33) (b := 13) (L := [.ref 20, .int x1, .int x2, .int x3, .null, .null]) (st := []) (w := w1) rfl h3).trans <|
    (runs_stps (q' := (14, [.ref 20, .int x1, .int x2, .int x3, .null, .null], [.int x1], w1)) 1 rfl).trans <|
    (runs_callS (rv := some (.int r2)) (w' := w2) rfl rfl rfl h4).trans <|
    (runs_if_t (a := 20) (b := 33) (L := [.ref 20, .int x1, .int x2, .int x3, .null, .null]) (st := []) (w := w2) rfl h5).trans <|
    (runs_stps (q' := (23, [.ref 20, .int x1, .int x2, .int x3, .null, .null], [.int x3, .int x2, .ref 20], w2)) 3 rfl).trans <|
    (runs_callV (rv := some (.int r3)) (w' := w3) rfl rfl rfl rfl h6).trans <|
    (runs_if_f (a := 33) (b := 29) (L := [.ref 20, .int x1, .int x2, .int x3, .null, .null]) (st := []) (w := w3) rfl h7).trans <|
    (runs_stps (q' := (38, [.null, .int x1, .null, .int x3, .int 1, .null], [.int 1], w3)) 4 rfl).trans <|
    (runs_if_t (a := 49) (b := 41) (L := [.null, .int x1, .null, .int x3, .int 1, .null]) (st := []) (w := w3) rfl h8).trans <|
    (runs_stps (q' := (50, [.null, .null, .null, .null, .null, .null], [.int (-1)], w3)) 1 rfl).trans <|
    runs_ret rfl
  · exact (runs_stps (q' := (2, [.ref 27, .int x1, .int x2, .int x3, .null, .null], [.int 5, .int x3], w)) 2 rfl).trans <|
    (runs_if_f (a := 51) (b := 5) (L := [.ref 27, .int x1, .int x2, .int x3, .null, .null]) (st := []) (w := w) rfl h1).trans <|
    (runs_stps (q' := (7, [.ref 27, .int x1, .int x2, .int x3, .null, .null], [.int x3, .ref 27], w)) 2 rfl).trans <|
    (runs_callV (rv := some (.int r1)) (w' := w1) rfl rfl rfl rfl h2).trans <|
    (runs_if_f (a := 33) (b := 13) (L := [.ref 27, .int x1, .int x2, .int x3, .null, .null]) (st := []) (w := w1) rfl h3).trans <|
    (runs_stps (q' := (14, [.ref 27, .int x1, .int x2, .int x3, .null, .null], [.int x1], w1)) 1 rfl).trans <|
    (runs_callS (rv := some (.int r2)) (w' := w2) rfl rfl rfl h4).trans <|
    (runs_if_t (a := 20) (b := 33) (L := [.ref 27, .int x1, .int x2, .int x3, .null, .null]) (st := []) (w := w2) rfl h5).trans <|
    (runs_stps (q' := (23, [.ref 27, .int x1, .int x2, .int x3, .null, .null], [.int x3, .int x2, .ref 27], w2)) 3 rfl).trans <|
    (runs_callV (rv := some (.int r3)) (w' := w3) rfl rfl rfl rfl h6).trans <|
    (runs_if_f (a := 33) (b := 29) (L := [.ref 27, .int x1, .int x2, .int x3, .null, .null]) (st := []) (w := w3) rfl h7).trans <|
    (runs_stps (q' := (38, [.null, .int x1, .null, .int x3, .int 1, .null], [.int 1], w3)) 4 rfl).trans <|
    (runs_if_t (a := 49) (b := 41) (L := [.null, .int x1, .null, .int x3, .int 1, .null]) (st := []) (w := w3) rfl h8).trans <|
    (runs_stps (q' := (50, [.null, .null, .null, .null, .null, .null], [.int (-1)], w3)) 1 rfl).trans <|
    runs_ret rfl
theorem p_X5_after_0FFFFF_R {ex : Ex} {p : Nat} {x1 : Int32} {x2 : Int32} {x3 : Int32} {r1 : Int32} {w1 : Wd} {r2 : Int32} {w2 : Wd} {r3 : Int32} {w3 : Wd} {r4 : Int32} {w4 : Wd} {w : Wd} (hp : scp p) (h1 : ¬ 5 ≤ x3) (h2 : ex 59 [.ref p, .int x3] w = some (some (.int r1), w1)) (h3 : ¬ r1 = 0) (h4 : ex 38 [.int x1] w1 = some (some (.int r2), w2)) (h5 : r2 = 0) (h6 : ex 71 [.ref p, .int x2, .int x3] w2 = some (some (.int r3), w3)) (h7 : ¬ r3 = 0) (h8 : ¬ (1 : Int32) = 0) (h9 : ex 39 [.int x1, .int x3] w3 = some (some (.int r4), w4)) : runs (T_X5_after ex) (0, [.ref p, .int x1, .int x2, .int x3, .null, .null], [], w) = some (some (.int r4), w4) := by
  rcases hp with rfl | rfl
  · exact (runs_stps (q' := (2, [.ref 20, .int x1, .int x2, .int x3, .null, .null], [.int 5, .int x3], w)) 2 rfl).trans <|
    (runs_if_f (a := 51) (b := 5) (L := [.ref 20, .int x1, .int x2, .int x3, .null, .null]) (st := []) (w := w) rfl h1).trans <|
    (runs_stps (q' := (7, [.ref 20, .int x1, .int x2, .int x3, .null, .null], [.int x3, .ref 20], w)) 2 rfl).trans <|
    (runs_callV (rv := some (.int r1)) (w' := w1) rfl rfl rfl rfl h2).trans <|
    (runs_if_f (a := 33) (b := 13) (L := [.ref 20, .int x1, .int x2, .int x3, .null, .null]) (st := []) (w := w1) rfl h3).trans <|
    (runs_stps (q' := (14, [.ref 20, .int x1, .int x2, .int x3, .null, .null], [.int x1], w1)) 1 rfl).trans <|
    (runs_callS (rv := some (.int r2)) (w' := w2) rfl rfl rfl h4).trans <|
    (runs_if_t (a := 20) (b := 33) (L := [.ref 20, .int x1, .int x2, .int x3, .null, .null]) (st := []) (w := w2) rfl h5).trans <|
    (runs_stps (q' := (23, [.ref 20, .int x1, .int x2, .int x3, .null, .null], [.int x3, .int x2, .ref 20], w2)) 3 rfl).trans <|
    (runs_callV (rv := some (.int r3)) (w' := w3) rfl rfl rfl rfl h6).trans <|
    (runs_if_f (a := 33) (b := 29) (L := [.ref 20, .int x1, .int x2, .int x3, .null, .null]) (st := []) (w := w3) rfl h7).trans <|
    (runs_stps (q' := (38, [.null, .int x1, .null, .int x3, .int 1, .null], [.int 1], w3)) 4 rfl).trans <|
    (runs_if_f (a := 49) (b := 41) (L := [.null, .int x1, .null, .int x3, .int 1, .null]) (st := []) (w := w3) rfl h8).trans <|
    (runs_stps (q' := (43, [.null, .int x1, .null, .int x3, .int 1, .null], [.int x3, .int x1], w3)) 2 rfl).trans <|
    (runs_callS (rv := some (.int r4)) (w' := w4) rfl rfl rfl h9).trans <|
    (runs_stps (q' := (50, [.null, .int x1, .null, .int x3, .int 1, .null], [.int r4], w4)) 1 rfl).trans <|
    runs_ret rfl
  · exact (runs_stps (q' := (2, [.ref 27, .int x1, .int x2, .int x3, .null, .null], [.int 5, .int x3], w)) 2 rfl).trans <|
    (runs_if_f (a := 51) (b := 5) (L := [.ref 27, .int x1, .int x2, .int x3, .null, .null]) (st := []) (w := w) rfl h1).trans <|
    (runs_stps (q' := (7, [.ref 27, .int x1, .int x2, .int x3, .null, .null], [.int x3, .ref 27], w)) 2 rfl).trans <|
    (runs_callV (rv := some (.int r1)) (w' := w1) rfl rfl rfl rfl h2).trans <|
    (runs_if_f (a := 33) (b := 13) (L := [.ref 27, .int x1, .int x2, .int x3, .null, .null]) (st := []) (w := w1) rfl h3).trans <|
    (runs_stps (q' := (14, [.ref 27, .int x1, .int x2, .int x3, .null, .null], [.int x1], w1)) 1 rfl).trans <|
    (runs_callS (rv := some (.int r2)) (w' := w2) rfl rfl rfl h4).trans <|
    (runs_if_t (a := 20) (b := 33) (L := [.ref 27, .int x1, .int x2, .int x3, .null, .null]) (st := []) (w := w2) rfl h5).trans <|
    (runs_stps (q' := (23, [.ref 27, .int x1, .int x2, .int x3, .null, .null], [.int x3, .int x2, .ref 27], w2)) 3 rfl).trans <|
    (runs_callV (rv := some (.int r3)) (w' := w3) rfl rfl rfl rfl h6).trans <|
    (runs_if_f (a := 33) (b := 29) (L := [.ref 27, .int x1, .int x2, .int x3, .null, .null]) (st := []) (w := w3) rfl h7).trans <|
    (runs_stps (q' := (38, [.null, .int x1, .null, .int x3, .int 1, .null], [.int 1], w3)) 4 rfl).trans <|
    (runs_if_f (a := 49) (b := 41) (L := [.null, .int x1, .null, .int x3, .int 1, .null]) (st := []) (w := w3) rfl h8).trans <|
    (runs_stps (q' := (43, [.null, .int x1, .null, .int x3, .int 1, .null], [.int x3, .int x1], w3)) 2 rfl).trans <|
    (runs_callS (rv := some (.int r4)) (w' := w4) rfl rfl rfl h9).trans <|
    (runs_stps (q' := (50, [.null, .int x1, .null, .int x3, .int 1, .null], [.int r4], w4)) 1 rfl).trans <|
    runs_ret rfl
theorem p_X5_costOf_0TTT_R {ex : Ex} {p : Nat} {x1 : Int32} {x2 : Int32} {w : Wd} (hp : scp p) (h1 : 5 ≤ x2) (h2 : ¬ x2 = 5) (h3 : ¬ x2 = 6) : runs (T_X5_costOf ex) (0, [.ref p, .int x1, .int x2], [], w) = some (some (.int 0), w) := by
  rcases hp with rfl | rfl
  · exact (runs_stps (q' := (2, [.ref 20, .int x1, .int x2], [.int 5, .int x2], w)) 2 rfl).trans <|
    (runs_if_t (a := 11) (b := 5) (L := [.ref 20, .int x1, .int x2]) (st := []) (w := w) rfl h1).trans <|
    (runs_stps (q' := (13, [.ref 20, .int x1, .int x2], [.int 5, .int x2], w)) 2 rfl).trans <|
    (runs_if_f (a := 16) (b := 25) (L := [.ref 20, .int x1, .int x2]) (st := []) (w := w) rfl h2).trans <|
    (runs_stps (q' := (28, [.ref 20, .null, .int x2], [.int 6, .int x2], w)) 2 rfl).trans <|
    (runs_if_f (a := 31) (b := 38) (L := [.ref 20, .null, .int x2]) (st := []) (w := w) rfl h3).trans <|
    (runs_stps (q' := (39, [.null, .null, .null], [.int 0], w)) 1 rfl).trans <|
    runs_ret rfl
  · exact (runs_stps (q' := (2, [.ref 27, .int x1, .int x2], [.int 5, .int x2], w)) 2 rfl).trans <|
    (runs_if_t (a := 11) (b := 5) (L := [.ref 27, .int x1, .int x2]) (st := []) (w := w) rfl h1).trans <|
    (runs_stps (q' := (13, [.ref 27, .int x1, .int x2], [.int 5, .int x2], w)) 2 rfl).trans <|
    (runs_if_f (a := 16) (b := 25) (L := [.ref 27, .int x1, .int x2]) (st := []) (w := w) rfl h2).trans <|
    (runs_stps (q' := (28, [.ref 27, .null, .int x2], [.int 6, .int x2], w)) 2 rfl).trans <|
    (runs_if_f (a := 31) (b := 38) (L := [.ref 27, .null, .int x2]) (st := []) (w := w) rfl h3).trans <|
    (runs_stps (q' := (39, [.null, .null, .null], [.int 0], w)) 1 rfl).trans <|
    runs_ret rfl
theorem p_X5_costOf_0TTF_R {ex : Ex} {p : Nat} {x1 : Int32} {x2 : Int32} {w : Wd} (hp : scp p) (h1 : 5 ≤ x2) (h2 : ¬ x2 = 5) (h3 : x2 = 6) : runs (T_X5_costOf ex) (0, [.ref p, .int x1, .int x2], [], w) = some (some (.int (w.1 p 9)), w) := by
  rcases hp with rfl | rfl
  · exact (runs_stps (q' := (2, [.ref 20, .int x1, .int x2], [.int 5, .int x2], w)) 2 rfl).trans <|
    (runs_if_t (a := 11) (b := 5) (L := [.ref 20, .int x1, .int x2]) (st := []) (w := w) rfl h1).trans <|
    (runs_stps (q' := (13, [.ref 20, .int x1, .int x2], [.int 5, .int x2], w)) 2 rfl).trans <|
    (runs_if_f (a := 16) (b := 25) (L := [.ref 20, .int x1, .int x2]) (st := []) (w := w) rfl h2).trans <|
    (runs_stps (q' := (28, [.ref 20, .null, .int x2], [.int 6, .int x2], w)) 2 rfl).trans <|
    (runs_if_t (a := 31) (b := 38) (L := [.ref 20, .null, .int x2]) (st := []) (w := w) rfl h3).trans <|
    (runs_stps (q' := (39, [.ref 20, .null, .int x2], [.int (w.1 20 9)], w)) 3 rfl).trans <|
    runs_ret rfl
  · exact (runs_stps (q' := (2, [.ref 27, .int x1, .int x2], [.int 5, .int x2], w)) 2 rfl).trans <|
    (runs_if_t (a := 11) (b := 5) (L := [.ref 27, .int x1, .int x2]) (st := []) (w := w) rfl h1).trans <|
    (runs_stps (q' := (13, [.ref 27, .int x1, .int x2], [.int 5, .int x2], w)) 2 rfl).trans <|
    (runs_if_f (a := 16) (b := 25) (L := [.ref 27, .int x1, .int x2]) (st := []) (w := w) rfl h2).trans <|
    (runs_stps (q' := (28, [.ref 27, .null, .int x2], [.int 6, .int x2], w)) 2 rfl).trans <|
    (runs_if_t (a := 31) (b := 38) (L := [.ref 27, .null, .int x2]) (st := []) (w := w) rfl h3).trans <|
    (runs_stps (q' := (39, [.ref 27, .null, .int x2], [.int (w.1 27 9)], w)) 3 rfl).trans <|
    runs_ret rfl
theorem p_X5_costOf_0TF_R {ex : Ex} {p : Nat} {x1 : Int32} {x2 : Int32} {r1 : Int32} {w1 : Wd} {r2 : Int32} {w2 : Wd} {w : Wd} (hp : scp p) (h1 : 5 ≤ x2) (h2 : x2 = 5) (h3 : ex 40 [.int x1] w = some (some (.int r1), w1)) (h4 : ex 66 [.ref p, .int r1] w1 = some (some (.int r2), w2)) : runs (T_X5_costOf ex) (0, [.ref p, .int x1, .int x2], [], w) = some (some (.int r2), w2) := by
  rcases hp with rfl | rfl
  · exact (runs_stps (q' := (2, [.ref 20, .int x1, .int x2], [.int 5, .int x2], w)) 2 rfl).trans <|
    (runs_if_t (a := 11) (b := 5) (L := [.ref 20, .int x1, .int x2]) (st := []) (w := w) rfl h1).trans <|
    (runs_stps (q' := (13, [.ref 20, .int x1, .int x2], [.int 5, .int x2], w)) 2 rfl).trans <|
    (runs_if_t (a := 16) (b := 25) (L := [.ref 20, .int x1, .int x2]) (st := []) (w := w) rfl h2).trans <|
    (runs_stps (q' := (18, [.ref 20, .int x1, .int x2], [.int x1, .ref 20], w)) 2 rfl).trans <|
    (runs_callS (rv := some (.int r1)) (w' := w1) rfl rfl rfl h3).trans <|
    (runs_callV (rv := some (.int r2)) (w' := w2) rfl rfl rfl rfl h4).trans <|
    runs_ret rfl
  · exact (runs_stps (q' := (2, [.ref 27, .int x1, .int x2], [.int 5, .int x2], w)) 2 rfl).trans <|
    (runs_if_t (a := 11) (b := 5) (L := [.ref 27, .int x1, .int x2]) (st := []) (w := w) rfl h1).trans <|
    (runs_stps (q' := (13, [.ref 27, .int x1, .int x2], [.int 5, .int x2], w)) 2 rfl).trans <|
    (runs_if_t (a := 16) (b := 25) (L := [.ref 27, .int x1, .int x2]) (st := []) (w := w) rfl h2).trans <|
    (runs_stps (q' := (18, [.ref 27, .int x1, .int x2], [.int x1, .ref 27], w)) 2 rfl).trans <|
    (runs_callS (rv := some (.int r1)) (w' := w1) rfl rfl rfl h3).trans <|
    (runs_callV (rv := some (.int r2)) (w' := w2) rfl rfl rfl rfl h4).trans <|
    runs_ret rfl
theorem p_X5_costOf_0F_R {ex : Ex} {p : Nat} {x1 : Int32} {x2 : Int32} {r1 : Int32} {w1 : Wd} {w : Wd} (hp : scp p) (h1 : ¬ 5 ≤ x2) (h2 : ex 65 [.ref p, .int x2] w = some (some (.int r1), w1)) : runs (T_X5_costOf ex) (0, [.ref p, .int x1, .int x2], [], w) = some (some (.int r1), w1) := by
  rcases hp with rfl | rfl
  · exact (runs_stps (q' := (2, [.ref 20, .int x1, .int x2], [.int 5, .int x2], w)) 2 rfl).trans <|
    (runs_if_f (a := 11) (b := 5) (L := [.ref 20, .int x1, .int x2]) (st := []) (w := w) rfl h1).trans <|
    (runs_stps (q' := (7, [.ref 20, .int x1, .int x2], [.int x2, .ref 20], w)) 2 rfl).trans <|
    (runs_callV (rv := some (.int r1)) (w' := w1) rfl rfl rfl rfl h2).trans <|
    runs_ret rfl
  · exact (runs_stps (q' := (2, [.ref 27, .int x1, .int x2], [.int 5, .int x2], w)) 2 rfl).trans <|
    (runs_if_f (a := 11) (b := 5) (L := [.ref 27, .int x1, .int x2]) (st := []) (w := w) rfl h1).trans <|
    (runs_stps (q' := (7, [.ref 27, .int x1, .int x2], [.int x2, .ref 27], w)) 2 rfl).trans <|
    (runs_callV (rv := some (.int r1)) (w' := w1) rfl rfl rfl rfl h2).trans <|
    runs_ret rfl
theorem p_X5_hasWay_0_L6 {ex : Ex} {p : Nat} {x1 : Int32} {x2 : Int32} {x3 : Int32} {w : Wd} (hp : scp p) : runs (T_X5_hasWay ex) (0, [.ref p, .int x1, .int x2, .int x3, .null, .null, .null, .null], [], w) = runs (T_X5_hasWay ex) (6, [.ref p, .int x1, .int x2, .int x3, .int x1, .int 0, .null, .null], [], w) := by
  rcases hp with rfl | rfl
  · exact (runs_stps (q' := (6, [.ref 20, .int x1, .int x2, .int x3, .int x1, .int 0, .null, .null], [], w)) 4 rfl).trans <|
    rfl
  · exact (runs_stps (q' := (6, [.ref 27, .int x1, .int x2, .int x3, .int x1, .int 0, .null, .null], [], w)) 4 rfl).trans <|
    rfl
theorem p_X5_hasWay_6T_L55 {ex : Ex} {p : Nat} {v1 : Value} {x2 : Int32} {x3 : Int32} {x4 : Int32} {x5 : Int32} {v6 : Value} {v7 : Value} {r1 : Int32} {w1 : Wd} {w : Wd} (hp : scp p) (h1 : 5 ≤ x5) (h2 : ex 45 [.int x4] w = some (some (.int r1), w1)) : runs (T_X5_hasWay ex) (6, [.ref p, v1, .int x2, .int x3, .int x4, .int x5, v6, v7], [], w) = runs (T_X5_hasWay ex) (55, [.ref p, .null, .int x2, .int x3, .int x4, .int (5 - r1), .int 0, .null], [], w1) := by
  rcases hp with rfl | rfl
  · exact (runs_stps (q' := (9, [.ref 20, .null, .int x2, .int x3, .int x4, .int x5, .null, .null], [.int 5, .int x5], w)) 2 rfl).trans <|
    (runs_if_t (a := 43) (b := 12) (L := [.ref 20, .null, .int x2, .int x3, .int x4, .int x5, .null, .null]) (st := []) (w := w) rfl h1).trans <|
    (runs_stps (q' := (46, [.ref 20, .null, .int x2, .int x3, .int x4, .null, .null, .null], [.int x4, .int 5], w)) 2 rfl).trans <|
    (runs_callS (rv := some (.int r1)) (w' := w1) rfl rfl rfl h2).trans <|
    (runs_stps (q' := (55, [.ref 20, .null, .int x2, .int x3, .int x4, .int (5 - r1), .int 0, .null], [], w1)) 4 rfl).trans <|
    rfl
  · exact (runs_stps (q' := (9, [.ref 27, .null, .int x2, .int x3, .int x4, .int x5, .null, .null], [.int 5, .int x5], w)) 2 rfl).trans <|
    (runs_if_t (a := 43) (b := 12) (L := [.ref 27, .null, .int x2, .int x3, .int x4, .int x5, .null, .null]) (st := []) (w := w) rfl h1).trans <|
    (runs_stps (q' := (46, [.ref 27, .null, .int x2, .int x3, .int x4, .null, .null, .null], [.int x4, .int 5], w)) 2 rfl).trans <|
    (runs_callS (rv := some (.int r1)) (w' := w1) rfl rfl rfl h2).trans <|
    (runs_stps (q' := (55, [.ref 27, .null, .int x2, .int x3, .int x4, .int (5 - r1), .int 0, .null], [], w1)) 4 rfl).trans <|
    rfl
theorem p_X5_hasWay_6FT_L55 {ex : Ex} {p : Nat} {v1 : Value} {x2 : Int32} {x3 : Int32} {x4 : Int32} {x5 : Int32} {v6 : Value} {v7 : Value} {r1 : Int32} {w1 : Wd} {w : Wd} (hp : scp p) (h1 : ¬ 5 ≤ x5) (h2 : x4 ≤ 0) (h3 : ex 45 [.int x4] w = some (some (.int r1), w1)) : runs (T_X5_hasWay ex) (6, [.ref p, v1, .int x2, .int x3, .int x4, .int x5, v6, v7], [], w) = runs (T_X5_hasWay ex) (55, [.ref p, .null, .int x2, .int x3, .int x4, .int (5 - r1), .int 0, .null], [], w1) := by
  rcases hp with rfl | rfl
  · exact (runs_stps (q' := (9, [.ref 20, .null, .int x2, .int x3, .int x4, .int x5, .null, .null], [.int 5, .int x5], w)) 2 rfl).trans <|
    (runs_if_f (a := 43) (b := 12) (L := [.ref 20, .null, .int x2, .int x3, .int x4, .int x5, .null, .null]) (st := []) (w := w) rfl h1).trans <|
    (runs_stps (q' := (14, [.ref 20, .null, .int x2, .int x3, .int x4, .int x5, .null, .null], [.int x4], w)) 1 rfl).trans <|
    (runs_if_t (a := 43) (b := 17) (L := [.ref 20, .null, .int x2, .int x3, .int x4, .int x5, .null, .null]) (st := []) (w := w) rfl h2).trans <|
    (runs_stps (q' := (46, [.ref 20, .null, .int x2, .int x3, .int x4, .null, .null, .null], [.int x4, .int 5], w)) 2 rfl).trans <|
    (runs_callS (rv := some (.int r1)) (w' := w1) rfl rfl rfl h3).trans <|
    (runs_stps (q' := (55, [.ref 20, .null, .int x2, .int x3, .int x4, .int (5 - r1), .int 0, .null], [], w1)) 4 rfl).trans <|
    rfl
  · exact (runs_stps (q' := (9, [.ref 27, .null, .int x2, .int x3, .int x4, .int x5, .null, .null], [.int 5, .int x5], w)) 2 rfl).trans <|
    (runs_if_f (a := 43) (b := 12) (L := [.ref 27, .null, .int x2, .int x3, .int x4, .int x5, .null, .null]) (st := []) (w := w) rfl h1).trans <|
    (runs_stps (q' := (14, [.ref 27, .null, .int x2, .int x3, .int x4, .int x5, .null, .null], [.int x4], w)) 1 rfl).trans <|
    (runs_if_t (a := 43) (b := 17) (L := [.ref 27, .null, .int x2, .int x3, .int x4, .int x5, .null, .null]) (st := []) (w := w) rfl h2).trans <|
    (runs_stps (q' := (46, [.ref 27, .null, .int x2, .int x3, .int x4, .null, .null, .null], [.int x4, .int 5], w)) 2 rfl).trans <|
    (runs_callS (rv := some (.int r1)) (w' := w1) rfl rfl rfl h3).trans <|
    (runs_stps (q' := (55, [.ref 27, .null, .int x2, .int x3, .int x4, .int (5 - r1), .int 0, .null], [], w1)) 4 rfl).trans <|
    rfl
theorem p_X5_hasWay_6FFT_L55 {ex : Ex} {p : Nat} {v1 : Value} {x2 : Int32} {x3 : Int32} {x4 : Int32} {x5 : Int32} {v6 : Value} {v7 : Value} {r1 : Int32} {w1 : Wd} {r2 : Int32} {w2 : Wd} {w : Wd} (hp : scp p) (h1 : ¬ 5 ≤ x5) (h2 : ¬ x4 ≤ 0) (h3 : ex 40 [.int x4] w = some (some (.int r1), w1)) (h4 : ¬ ((x3 >>> (r1 &&& 31)) &&& 1) = 1) (h5 : ex 45 [.int x4] w1 = some (some (.int r2), w2)) : runs (T_X5_hasWay ex) (6, [.ref p, v1, .int x2, .int x3, .int x4, .int x5, v6, v7], [], w) = runs (T_X5_hasWay ex) (55, [.ref p, .null, .int x2, .int x3, .int x4, .int (5 - r2), .int 0, .null], [], w2) := by
  rcases hp with rfl | rfl
  · exact (runs_stps (q' := (9, [.ref 20, .null, .int x2, .int x3, .int x4, .int x5, .null, .null], [.int 5, .int x5], w)) 2 rfl).trans <|
    (runs_if_f (a := 43) (b := 12) (L := [.ref 20, .null, .int x2, .int x3, .int x4, .int x5, .null, .null]) (st := []) (w := w) rfl h1).trans <|
    (runs_stps (q' := (14, [.ref 20, .null, .int x2, .int x3, .int x4, .int x5, .null, .null], [.int x4], w)) 1 rfl).trans <|
    (runs_if_f (a := 43) (b := 17) (L := [.ref 20, .null, .int x2, .int x3, .int x4, .int x5, .null, .null]) (st := []) (w := w) rfl h2).trans <|
    (runs_stps (q' := (20, [.ref 20, .null, .int x2, .int x3, .int x4, .int x5, .null, .null], [.int x4, .int x3], w)) 2 rfl).trans <|
    (runs_callS (rv := some (.int r1)) (w' := w1) rfl rfl rfl h3).trans <|
    (runs_stps (q' := (27, [.ref 20, .null, .int x2, .int x3, .int x4, .int x5, .null, .null], [.int 1, .int ((x3 >>> (r1 &&& 31)) &&& 1)], w1)) 4 rfl).trans <|
    (runs_if_f (a := 30) (b := 43) (L := [.ref 20, .null, .int x2, .int x3, .int x4, .int x5, .null, .null]) (st := []) (w := w1) rfl h4).trans <|
    (runs_stps (q' := (46, [.ref 20, .null, .int x2, .int x3, .int x4, .null, .null, .null], [.int x4, .int 5], w1)) 2 rfl).trans <|
    (runs_callS (rv := some (.int r2)) (w' := w2) rfl rfl rfl h5).trans <|
    (runs_stps (q' := (55, [.ref 20, .null, .int x2, .int x3, .int x4, .int (5 - r2), .int 0, .null], [], w2)) 4 rfl).trans <|
    rfl
  · exact (runs_stps (q' := (9, [.ref 27, .null, .int x2, .int x3, .int x4, .int x5, .null, .null], [.int 5, .int x5], w)) 2 rfl).trans <|
    (runs_if_f (a := 43) (b := 12) (L := [.ref 27, .null, .int x2, .int x3, .int x4, .int x5, .null, .null]) (st := []) (w := w) rfl h1).trans <|
    (runs_stps (q' := (14, [.ref 27, .null, .int x2, .int x3, .int x4, .int x5, .null, .null], [.int x4], w)) 1 rfl).trans <|
    (runs_if_f (a := 43) (b := 17) (L := [.ref 27, .null, .int x2, .int x3, .int x4, .int x5, .null, .null]) (st := []) (w := w) rfl h2).trans <|
    (runs_stps (q' := (20, [.ref 27, .null, .int x2, .int x3, .int x4, .int x5, .null, .null], [.int x4, .int x3], w)) 2 rfl).trans <|
    (runs_callS (rv := some (.int r1)) (w' := w1) rfl rfl rfl h3).trans <|
    (runs_stps (q' := (27, [.ref 27, .null, .int x2, .int x3, .int x4, .int x5, .null, .null], [.int 1, .int ((x3 >>> (r1 &&& 31)) &&& 1)], w1)) 4 rfl).trans <|
    (runs_if_f (a := 30) (b := 43) (L := [.ref 27, .null, .int x2, .int x3, .int x4, .int x5, .null, .null]) (st := []) (w := w1) rfl h4).trans <|
    (runs_stps (q' := (46, [.ref 27, .null, .int x2, .int x3, .int x4, .null, .null, .null], [.int x4, .int 5], w1)) 2 rfl).trans <|
    (runs_callS (rv := some (.int r2)) (w' := w2) rfl rfl rfl h5).trans <|
    (runs_stps (q' := (55, [.ref 27, .null, .int x2, .int x3, .int x4, .int (5 - r2), .int 0, .null], [], w2)) 4 rfl).trans <|
    rfl
theorem p_X5_hasWay_6FFF_L6 {ex : Ex} {p : Nat} {v1 : Value} {x2 : Int32} {x3 : Int32} {x4 : Int32} {x5 : Int32} {v6 : Value} {v7 : Value} {r1 : Int32} {w1 : Wd} {r2 : Int32} {w2 : Wd} {w : Wd} (hp : scp p) (h1 : ¬ 5 ≤ x5) (h2 : ¬ x4 ≤ 0) (h3 : ex 40 [.int x4] w = some (some (.int r1), w1)) (h4 : ((x3 >>> (r1 &&& 31)) &&& 1) = 1) (h5 : ex 41 [.int x4] w1 = some (some (.int r2), w2)) : runs (T_X5_hasWay ex) (6, [.ref p, v1, .int x2, .int x3, .int x4, .int x5, v6, v7], [], w) = runs (T_X5_hasWay ex) (6, [.ref p, .null, .int x2, .int x3, .int r2, .int (x5 + 1), .null, .null], [], w2) := by
  rcases hp with rfl | rfl
  · exact (runs_stps (q' := (9, [.ref 20, .null, .int x2, .int x3, .int x4, .int x5, .null, .null], [.int 5, .int x5], w)) 2 rfl).trans <|
    (runs_if_f (a := 43) (b := 12) (L := [.ref 20, .null, .int x2, .int x3, .int x4, .int x5, .null, .null]) (st := []) (w := w) rfl h1).trans <|
    (runs_stps (q' := (14, [.ref 20, .null, .int x2, .int x3, .int x4, .int x5, .null, .null], [.int x4], w)) 1 rfl).trans <|
    (runs_if_f (a := 43) (b := 17) (L := [.ref 20, .null, .int x2, .int x3, .int x4, .int x5, .null, .null]) (st := []) (w := w) rfl h2).trans <|
    (runs_stps (q' := (20, [.ref 20, .null, .int x2, .int x3, .int x4, .int x5, .null, .null], [.int x4, .int x3], w)) 2 rfl).trans <|
    (runs_callS (rv := some (.int r1)) (w' := w1) rfl rfl rfl h3).trans <|
    (runs_stps (q' := (27, [.ref 20, .null, .int x2, .int x3, .int x4, .int x5, .null, .null], [.int 1, .int ((x3 >>> (r1 &&& 31)) &&& 1)], w1)) 4 rfl).trans <|
    (runs_if_t (a := 30) (b := 43) (L := [.ref 20, .null, .int x2, .int x3, .int x4, .int x5, .null, .null]) (st := []) (w := w1) rfl h4).trans <|
    (runs_stps (q' := (32, [.ref 20, .null, .int x2, .int x3, .int x4, .int x5, .null, .null], [.int x4], w1)) 1 rfl).trans <|
    (runs_callS (rv := some (.int r2)) (w' := w2) rfl rfl rfl h5).trans <|
    (runs_stps (q' := (6, [.ref 20, .null, .int x2, .int x3, .int r2, .int (x5 + 1), .null, .null], [], w2)) 3 rfl).trans <|
    rfl
  · exact (runs_stps (q' := (9, [.ref 27, .null, .int x2, .int x3, .int x4, .int x5, .null, .null], [.int 5, .int x5], w)) 2 rfl).trans <|
    (runs_if_f (a := 43) (b := 12) (L := [.ref 27, .null, .int x2, .int x3, .int x4, .int x5, .null, .null]) (st := []) (w := w) rfl h1).trans <|
    (runs_stps (q' := (14, [.ref 27, .null, .int x2, .int x3, .int x4, .int x5, .null, .null], [.int x4], w)) 1 rfl).trans <|
    (runs_if_f (a := 43) (b := 17) (L := [.ref 27, .null, .int x2, .int x3, .int x4, .int x5, .null, .null]) (st := []) (w := w) rfl h2).trans <|
    (runs_stps (q' := (20, [.ref 27, .null, .int x2, .int x3, .int x4, .int x5, .null, .null], [.int x4, .int x3], w)) 2 rfl).trans <|
    (runs_callS (rv := some (.int r1)) (w' := w1) rfl rfl rfl h3).trans <|
    (runs_stps (q' := (27, [.ref 27, .null, .int x2, .int x3, .int x4, .int x5, .null, .null], [.int 1, .int ((x3 >>> (r1 &&& 31)) &&& 1)], w1)) 4 rfl).trans <|
    (runs_if_t (a := 30) (b := 43) (L := [.ref 27, .null, .int x2, .int x3, .int x4, .int x5, .null, .null]) (st := []) (w := w1) rfl h4).trans <|
    (runs_stps (q' := (32, [.ref 27, .null, .int x2, .int x3, .int x4, .int x5, .null, .null], [.int x4], w1)) 1 rfl).trans <|
    (runs_callS (rv := some (.int r2)) (w' := w2) rfl rfl rfl h5).trans <|
    (runs_stps (q' := (6, [.ref 27, .null, .int x2, .int x3, .int r2, .int (x5 + 1), .null, .null], [], w2)) 3 rfl).trans <|
    rfl
theorem p_X5_hasWay_55T_R {ex : Ex} {p : Nat} {v1 : Value} {x2 : Int32} {x3 : Int32} {x4 : Int32} {x5 : Int32} {x6 : Int32} {v7 : Value} {w : Wd} (hp : scp p) (h1 : (1 <<< ((w.1 p 6) &&& 31)) ≤ x6) : runs (T_X5_hasWay ex) (55, [.ref p, v1, .int x2, .int x3, .int x4, .int x5, .int x6, v7], [], w) = some (some (.int 0), w) := by
  rcases hp with rfl | rfl
  · exact (runs_stps (q' := (63, [.ref 20, .null, .int x2, .int x3, .int x4, .int x5, .int x6, .null], [.int (1 <<< ((w.1 20 6) &&& 31)), .int x6], w)) 5 rfl).trans <|
    (runs_if_t (a := 117) (b := 66) (L := [.ref 20, .null, .int x2, .int x3, .int x4, .int x5, .int x6, .null]) (st := []) (w := w) rfl h1).trans <|
    (runs_stps (q' := (118, [.null, .null, .null, .null, .null, .null, .null, .null], [.int 0], w)) 1 rfl).trans <|
    runs_ret rfl
  · exact (runs_stps (q' := (63, [.ref 27, .null, .int x2, .int x3, .int x4, .int x5, .int x6, .null], [.int (1 <<< ((w.1 27 6) &&& 31)), .int x6], w)) 5 rfl).trans <|
    (runs_if_t (a := 117) (b := 66) (L := [.ref 27, .null, .int x2, .int x3, .int x4, .int x5, .int x6, .null]) (st := []) (w := w) rfl h1).trans <|
    (runs_stps (q' := (118, [.null, .null, .null, .null, .null, .null, .null, .null], [.int 0], w)) 1 rfl).trans <|
    runs_ret rfl

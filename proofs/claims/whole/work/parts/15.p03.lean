/-! paths of the methods (printed by a program) -/
theorem p_X5_hasWay_55FTT_L55 {ex : Ex} {p : Nat} {v1 : Value} {x2 : Int32} {x3 : Int32} {x4 : Int32} {x5 : Int32} {x6 : Int32} {v7 : Value} {w : Wd} (hp : scp p) (h1 : ¬ (1 <<< ((w.1 p 6) &&& 31)) ≤ x6) (h2 : ¬ (x6 &&& (x3 ^^^ (-1))) = 0) (h3 : (0 : Int32) = 0) : runs (T_X5_hasWay ex) (55, [.ref p, v1, .int x2, .int x3, .int x4, .int x5, .int x6, v7], [], w) = runs (T_X5_hasWay ex) (55, [.ref p, .null, .int x2, .int x3, .int x4, .int x5, .int (x6 + 1), .null], [], w) := by
  rcases hp with rfl | rfl
  · exact (runs_stps (q' := (63, [.ref 20, .null, .int x2, .int x3, .int x4, .int x5, .int x6, .null], [.int (1 <<< ((w.1 20 6) &&& 31)), .int x6], w)) 5 rfl).trans <|
    (runs_if_f (a := 117) (b := 66) (L := [.ref 20, .null, .int x2, .int x3, .int x4, .int x5, .int x6, .null]) (st := []) (w := w) rfl h1).trans <|
    (runs_stps (q' := (72, [.ref 20, .null, .int x2, .int x3, .int x4, .int x5, .int x6, .null], [.int (x6 &&& (x3 ^^^ (-1)))], w)) 5 rfl).trans <|
    (runs_if_f (a := 75) (b := 89) (L := [.ref 20, .null, .int x2, .int x3, .int x4, .int x5, .int x6, .null]) (st := []) (w := w) rfl h2).trans <|
    (runs_stps (q' := (94, [.ref 20, .null, .int x2, .int x3, .int x4, .int x5, .int x6, .int 0], [.int 0], w)) 3 rfl).trans <|
    (runs_if_t (a := 111) (b := 97) (L := [.ref 20, .null, .int x2, .int x3, .int x4, .int x5, .int x6, .int 0]) (st := []) (w := w) rfl h3).trans <|
    (runs_stps (q' := (55, [.ref 20, .null, .int x2, .int x3, .int x4, .int x5, .int (x6 + 1), .null], [], w)) 2 rfl).trans <|
    rfl
  · exact (runs_stps (q' := (63, [.ref 27, .null, .int x2, .int x3, .int x4, .int x5, .int x6, .null], [.int (1 <<< ((w.1 27 6) &&& 31)), .int x6], w)) 5 rfl).trans <|
    (runs_if_f (a := 117) (b := 66) (L := [.ref 27, .null, .int x2, .int x3, .int x4, .int x5, .int x6, .null]) (st := []) (w := w) rfl h1).trans <|
    (runs_stps (q' := (72, [.ref 27, .null, .int x2, .int x3, .int x4, .int x5, .int x6, .null], [.int (x6 &&& (x3 ^^^ (-1)))], w)) 5 rfl).trans <|
    (runs_if_f (a := 75) (b := 89) (L := [.ref 27, .null, .int x2, .int x3, .int x4, .int x5, .int x6, .null]) (st := []) (w := w) rfl h2).trans <|
    (runs_stps (q' := (94, [.ref 27, .null, .int x2, .int x3, .int x4, .int x5, .int x6, .int 0], [.int 0], w)) 3 rfl).trans <|
    (runs_if_t (a := 111) (b := 97) (L := [.ref 27, .null, .int x2, .int x3, .int x4, .int x5, .int x6, .int 0]) (st := []) (w := w) rfl h3).trans <|
    (runs_stps (q' := (55, [.ref 27, .null, .int x2, .int x3, .int x4, .int x5, .int (x6 + 1), .null], [], w)) 2 rfl).trans <|
    rfl
theorem p_X5_hasWay_55FTFT_L55 {ex : Ex} {p : Nat} {v1 : Value} {x2 : Int32} {x3 : Int32} {x4 : Int32} {x5 : Int32} {x6 : Int32} {v7 : Value} {r1 : Int32} {w1 : Wd} {w : Wd} (hp : scp p) (h1 : ¬ (1 <<< ((w.1 p 6) &&& 31)) ≤ x6) (h2 : ¬ (x6 &&& (x3 ^^^ (-1))) = 0) (h3 : ¬ (0 : Int32) = 0) (h4 : ex 80 [.ref p, .int x6, .int x4] w = some (some (.int r1), w1)) (h5 : ¬ r1 = x2) : runs (T_X5_hasWay ex) (55, [.ref p, v1, .int x2, .int x3, .int x4, .int x5, .int x6, v7], [], w) = runs (T_X5_hasWay ex) (55, [.ref p, .null, .int x2, .int x3, .int x4, .int x5, .int (x6 + 1), .null], [], w1) := by
  rcases hp with rfl | rfl
  · exact (runs_stps (q' := (63, [.ref 20, .null, .int x2, .int x3, .int x4, .int x5, .int x6, .null], [.int (1 <<< ((w.1 20 6) &&& 31)), .int x6], w)) 5 rfl).trans <|
    (runs_if_f (a := 117) (b := 66) (L := [.ref 20, .null, .int x2, .int x3, .int x4, .int x5, .int x6, .null]) (st := []) (w := w) rfl h1).trans <|
    (runs_stps (q' := (72, [.ref 20, .null, .int x2, .int x3, .int x4, .int x5, .int x6, .null], [.int (x6 &&& (x3 ^^^ (-1)))], w)) 5 rfl).trans <|
    (runs_if_f (a := 75) (b := 89) (L := [.ref 20, .null, .int x2, .int x3, .int x4, .int x5, .int x6, .null]) (st := []) (w := w) rfl h2).trans <|
    (runs_stps (q' := (94, [.ref 20, .null, .int x2, .int x3, .int x4, .int x5, .int x6, .int 0], [.int 0], w)) 3 rfl).trans <|
    (runs_if_f (a := 111) (b := 97) (L := [.ref 20, .null, .int x2, .int x3, .int x4, .int x5, .int x6, .int 0]) (st := []) (w := w) rfl h3).trans <|
    (runs_stps (q' := (102, [.ref 20, .null, .int x2, .int x3, .int x4, .int x5, .int x6, .int 0], [.int x4, .int x6, .ref 20], w)) 3 rfl).trans <|
    (runs_callV (rv := some (.int r1)) (w' := w1) rfl rfl rfl rfl h4).trans <|
    (runs_stps (q' := (106, [.ref 20, .null, .int x2, .int x3, .int x4, .int x5, .int x6, .int 0], [.int x2, .int r1], w1)) 1 rfl).trans <|
    (runs_if_f (a := 109) (b := 111) (L := [.ref 20, .null, .int x2, .int x3, .int x4, .int x5, .int x6, .int 0]) (st := []) (w := w1) rfl h5).trans <|
    (runs_stps (q' := (55, [.ref 20, .null, .int x2, .int x3, .int x4, .int x5, .int (x6 + 1), .null], [], w1)) 2 rfl).trans <|
    rfl
  · exact (runs_stps (q' := (63, [.ref 27, .null, .int x2, .int x3, .int x4, .int x5, .int x6, .null], [.int (1 <<< ((w.1 27 6) &&& 31)), .int x6], w)) 5 rfl).trans <|
    (runs_if_f (a := 117) (b := 66) (L := [.ref 27, .null, .int x2, .int x3, .int x4, .int x5, .int x6, .null]) (st := []) (w := w) rfl h1).trans <|
    (runs_stps (q' := (72, [.ref 27, .null, .int x2, .int x3, .int x4, .int x5, .int x6, .null], [.int (x6 &&& (x3 ^^^ (-1)))], w)) 5 rfl).trans <|
    (runs_if_f (a := 75) (b := 89) (L := [.ref 27, .null, .int x2, .int x3, .int x4, .int x5, .int x6, .null]) (st := []) (w := w) rfl h2).trans <|
    (runs_stps (q' := (94, [.ref 27, .null, .int x2, .int x3, .int x4, .int x5, .int x6, .int 0], [.int 0], w)) 3 rfl).trans <|
    (runs_if_f (a := 111) (b := 97) (L := [.ref 27, .null, .int x2, .int x3, .int x4, .int x5, .int x6, .int 0]) (st := []) (w := w) rfl h3).trans <|
    (runs_stps (q' := (102, [.ref 27, .null, .int x2, .int x3, .int x4, .int x5, .int x6, .int 0], [.int x4, .int x6, .ref 27], w)) 3 rfl).trans <|
    (runs_callV (rv := some (.int r1)) (w' := w1) rfl rfl rfl rfl h4).trans <|
    (runs_stps (q' := (106, [.ref 27, .null, .int x2, .int x3, .int x4, .int x5, .int x6, .int 0], [.int x2, .int r1], w1)) 1 rfl).trans <|
    (runs_if_f (a := 109) (b := 111) (L := [.ref 27, .null, .int x2, .int x3, .int x4, .int x5, .int x6, .int 0]) (st := []) (w := w1) rfl h5).trans <|
    (runs_stps (q' := (55, [.ref 27, .null, .int x2, .int x3, .int x4, .int x5, .int (x6 + 1), .null], [], w1)) 2 rfl).trans <|
    rfl
theorem p_X5_hasWay_55FTFF_R {ex : Ex} {p : Nat} {v1 : Value} {x2 : Int32} {x3 : Int32} {x4 : Int32} {x5 : Int32} {x6 : Int32} {v7 : Value} {r1 : Int32} {w1 : Wd} {w : Wd} (hp : scp p) (h1 : ¬ (1 <<< ((w.1 p 6) &&& 31)) ≤ x6) (h2 : ¬ (x6 &&& (x3 ^^^ (-1))) = 0) (h3 : ¬ (0 : Int32) = 0) (h4 : ex 80 [.ref p, .int x6, .int x4] w = some (some (.int r1), w1)) (h5 : r1 = x2) : runs (T_X5_hasWay ex) (55, [.ref p, v1, .int x2, .int x3, .int x4, .int x5, .int x6, v7], [], w) = some (some (.int 1), w1) := by
  rcases hp with rfl | rfl
  · exact (runs_stps (q' := (63, [.ref 20, .null, .int x2, .int x3, .int x4, .int x5, .int x6, .null], [.int (1 <<< ((w.1 20 6) &&& 31)), .int x6], w)) 5 rfl).trans <|
    (runs_if_f (a := 117) (b := 66) (L := [.ref 20, .null, .int x2, .int x3, .int x4, .int x5, .int x6, .null]) (st := []) (w := w) rfl h1).trans <|
    (runs_stps (q' := (72, [.ref 20, .null, .int x2, .int x3, .int x4, .int x5, .int x6, .null], [.int (x6 &&& (x3 ^^^ (-1)))], w)) 5 rfl).trans <|
    (runs_if_f (a := 75) (b := 89) (L := [.ref 20, .null, .int x2, .int x3, .int x4, .int x5, .int x6, .null]) (st := []) (w := w) rfl h2).trans <|
    (runs_stps (q' := (94, [.ref 20, .null, .int x2, .int x3, .int x4, .int x5, .int x6, .int 0], [.int 0], w)) 3 rfl).trans <|
    (runs_if_f (a := 111) (b := 97) (L := [.ref 20, .null, .int x2, .int x3, .int x4, .int x5, .int x6, .int 0]) (st := []) (w := w) rfl h3).trans <|
    (runs_stps (q' := (102, [.ref 20, .null, .int x2, .int x3, .int x4, .int x5, .int x6, .int 0], [.int x4, .int x6, .ref 20], w)) 3 rfl).trans <|
    (runs_callV (rv := some (.int r1)) (w' := w1) rfl rfl rfl rfl h4).trans <|
    (runs_stps (q' := (106, [.ref 20, .null, .int x2, .int x3, .int x4, .int x5, .int x6, .int 0], [.int x2, .int r1], w1)) 1 rfl).trans <|
    (runs_if_t (a := 109) (b := 111) (L := [.ref 20, .null, .int x2, .int x3, .int x4, .int x5, .int x6, .int 0]) (st := []) (w := w1) rfl h5).trans <|
    (runs_stps (q' := (110, [.ref 20, .null, .int x2, .int x3, .int x4, .int x5, .int x6, .int 0], [.int 1], w1)) 1 rfl).trans <|
    runs_ret rfl
  · exact (runs_stps (q' := (63, [.ref 27, .null, .int x2, .int x3, .int x4, .int x5, .int x6, .null], [.int (1 <<< ((w.1 27 6) &&& 31)), .int x6], w)) 5 rfl).trans <|
    (runs_if_f (a := 117) (b := 66) (L := [.ref 27, .null, .int x2, .int x3, .int x4, .int x5, .int x6, .null]) (st := []) (w := w) rfl h1).trans <|
    (runs_stps (q' := (72, [.ref 27, .null, .int x2, .int x3, .int x4, .int x5, .int x6, .null], [.int (x6 &&& (x3 ^^^ (-1)))], w)) 5 rfl).trans <|
    (runs_if_f (a := 75) (b := 89) (L := [.ref 27, .null, .int x2, .int x3, .int x4, .int x5, .int x6, .null]) (st := []) (w := w) rfl h2).trans <|
    (runs_stps (q' := (94, [.ref 27, .null, .int x2, .int x3, .int x4, .int x5, .int x6, .int 0], [.int 0], w)) 3 rfl).trans <|
    (runs_if_f (a := 111) (b := 97) (L := [.ref 27, .null, .int x2, .int x3, .int x4, .int x5, .int x6, .int 0]) (st := []) (w := w) rfl h3).trans <|
    (runs_stps (q' := (102, [.ref 27, .null, .int x2, .int x3, .int x4, .int x5, .int x6, .int 0], [.int x4, .int x6, .ref 27], w)) 3 rfl).trans <|
    (runs_callV (rv := some (.int r1)) (w' := w1) rfl rfl rfl rfl h4).trans <|
    (runs_stps (q' := (106, [.ref 27, .null, .int x2, .int x3, .int x4, .int x5, .int x6, .int 0], [.int x2, .int r1], w1)) 1 rfl).trans <|
    (runs_if_t (a := 109) (b := 111) (L := [.ref 27, .null, .int x2, .int x3, .int x4, .int x5, .int x6, .int 0]) (st := []) (w := w1) rfl h5).trans <|
    (runs_stps (q' := (110, [.ref 27, .null, .int x2, .int x3, .int x4, .int x5, .int x6, .int 0], [.int 1], w1)) 1 rfl).trans <|
    runs_ret rfl
theorem p_X5_hasWay_55FFTT_L55 {ex : Ex} {p : Nat} {v1 : Value} {x2 : Int32} {x3 : Int32} {x4 : Int32} {x5 : Int32} {x6 : Int32} {v7 : Value} {r1 : Int32} {w1 : Wd} {w : Wd} (hp : scp p) (h1 : ¬ (1 <<< ((w.1 p 6) &&& 31)) ≤ x6) (h2 : (x6 &&& (x3 ^^^ (-1))) = 0) (h3 : ex 198 [.int x6] w = some (some (.int r1), w1)) (h4 : x5 < r1) (h5 : (0 : Int32) = 0) : runs (T_X5_hasWay ex) (55, [.ref p, v1, .int x2, .int x3, .int x4, .int x5, .int x6, v7], [], w) = runs (T_X5_hasWay ex) (55, [.ref p, .null, .int x2, .int x3, .int x4, .int x5, .int (x6 + 1), .null], [], w1) := by
  rcases hp with rfl | rfl
  · exact (runs_stps (q' := (63, [.ref 20, .null, .int x2, .int x3, .int x4, .int x5, .int x6, .null], [.int (1 <<< ((w.1 20 6) &&& 31)), .int x6], w)) 5 rfl).trans <|
    (runs_if_f (a := 117) (b := 66) (L := [.ref 20, .null, .int x2, .int x3, .int x4, .int x5, .int x6, .null]) (st := []) (w := w) rfl h1).trans <|
    (runs_stps (q' := (72, [.ref 20, .null, .int x2, .int x3, .int x4, .int x5, .int x6, .null], [.int (x6 &&& (x3 ^^^ (-1)))], w)) 5 rfl).trans <|
    (runs_if_t (a := 75) (b := 89) (L := [.ref 20, .null, .int x2, .int x3, .int x4, .int x5, .int x6, .null]) (st := []) (w := w) rfl h2).trans <|
    (runs_stps (q' := (77, [.ref 20, .null, .int x2, .int x3, .int x4, .int x5, .int x6, .null], [.int x6], w)) 1 rfl).trans <|
    (runs_callS (rv := some (.int r1)) (w' := w1) rfl rfl rfl h3).trans <|
    (runs_stps (q' := (82, [.ref 20, .null, .int x2, .int x3, .int x4, .int x5, .int x6, .null], [.int x5, .int r1], w1)) 1 rfl).trans <|
    (runs_if_t (a := 89) (b := 85) (L := [.ref 20, .null, .int x2, .int x3, .int x4, .int x5, .int x6, .null]) (st := []) (w := w1) rfl h4).trans <|
    (runs_stps (q' := (94, [.ref 20, .null, .int x2, .int x3, .int x4, .int x5, .int x6, .int 0], [.int 0], w1)) 3 rfl).trans <|
    (runs_if_t (a := 111) (b := 97) (L := [.ref 20, .null, .int x2, .int x3, .int x4, .int x5, .int x6, .int 0]) (st := []) (w := w1) rfl h5).trans <|
    (runs_stps (q' := (55, [.ref 20, .null, .int x2, .int x3, .int x4, .int x5, .int (x6 + 1), .null], [], w1)) 2 rfl).trans <|
    rfl
  · exact (runs_stps (q' := (63, [.ref 27, .null, .int x2, .int x3, .int x4, .int x5, .int x6, .null], [.int (1 <<< ((w.1 27 6) &&& 31)), .int x6], w)) 5 rfl).trans <|
    (runs_if_f (a := 117) (b := 66) (L := [.ref 27, .null, .int x2, .int x3, .int x4, .int x5, .int x6, .null]) (st := []) (w := w) rfl h1).trans <|
    (runs_stps (q' := (72, [.ref 27, .null, .int x2, .int x3, .int x4, .int x5, .int x6, .null], [.int (x6 &&& (x3 ^^^ (-1)))], w)) 5 rfl).trans <|
    (runs_if_t (a := 75) (b := 89) (L := [.ref 27, .null, .int x2, .int x3, .int x4, .int x5, .int x6, .null]) (st := []) (w := w) rfl h2).trans <|
    (runs_stps (q' := (77, [.ref 27, .null, .int x2, .int x3, .int x4, .int x5, .int x6, .null], [.int x6], w)) 1 rfl).trans <|
    (runs_callS (rv := some (.int r1)) (w' := w1) rfl rfl rfl h3).trans <|
    (runs_stps (q' := (82, [.ref 27, .null, .int x2, .int x3, .int x4, .int x5, .int x6, .null], [.int x5, .int r1], w1)) 1 rfl).trans <|
    (runs_if_t (a := 89) (b := 85) (L := [.ref 27, .null, .int x2, .int x3, .int x4, .int x5, .int x6, .null]) (st := []) (w := w1) rfl h4).trans <|
    (runs_stps (q' := (94, [.ref 27, .null, .int x2, .int x3, .int x4, .int x5, .int x6, .int 0], [.int 0], w1)) 3 rfl).trans <|
    (runs_if_t (a := 111) (b := 97) (L := [.ref 27, .null, .int x2, .int x3, .int x4, .int x5, .int x6, .int 0]) (st := []) (w := w1) rfl h5).trans <|
    (runs_stps (q' := (55, [.ref 27, .null, .int x2, .int x3, .int x4, .int x5, .int (x6 + 1), .null], [], w1)) 2 rfl).trans <|
    rfl
theorem p_X5_hasWay_55FFTFT_L55 {ex : Ex} {p : Nat} {v1 : Value} {x2 : Int32} {x3 : Int32} {x4 : Int32} {x5 : Int32} {x6 : Int32} {v7 : Value} {r1 : Int32} {w1 : Wd} {r2 : Int32} {w2 : Wd} {w : Wd} (hp : scp p) (h1 : ¬ (1 <<< ((w.1 p 6) &&& 31)) ≤ x6) (h2 : (x6 &&& (x3 ^^^ (-1))) = 0) (h3 : ex 198 [.int x6] w = some (some (.int r1), w1)) (h4 : x5 < r1) (h5 : ¬ (0 : Int32) = 0) (h6 : ex 80 [.ref p, .int x6, .int x4] w1 = some (some (.int r2), w2)) (h7 : ¬ r2 = x2) : runs (T_X5_hasWay ex) (55, [.ref p, v1, .int x2, .int x3, .int x4, .int x5, .int x6, v7], [], w) = runs (T_X5_hasWay ex) (55, [.ref p, .null, .int x2, .int x3, .int x4, .int x5, .int (x6 + 1), .null], [], w2) := by
  rcases hp with rfl | rfl
  · exact (runs_stps (q' := (63, [.ref 20, .null, .int x2, .int x3, .int x4, .int x5, .int x6, .null], [.int (1 <<< ((w.1 20 6) &&& 31)), .int x6], w)) 5 rfl).trans <|
    (runs_if_f (a := 117) (b := 66) (L := [.ref 20, .null, .int x2, .int x3, .int x4, .int x5, .int x6, .null]) (st := []) (w := w) rfl h1).trans <|
    (runs_stps (q' := (72, [.ref 20, .null, .int x2, .int x3, .int x4, .int x5, .int x6, .null], [.int (x6 &&& (x3 ^^^ (-1)))], w)) 5 rfl).trans <|
    (runs_if_t (a := 75) (b := 89) (L := [.ref 20, .null, .int x2, .int x3, .int x4, .int x5, .int x6, .null]) (st := []) (w := w) rfl h2).trans <|
    (runs_stps (q' := (77, [.ref 20, .null, .int x2, .int x3, .int x4, .int x5, .int x6, .null], [.int x6], w)) 1 rfl).trans <|
    (runs_callS (rv := some (.int r1)) (w' := w1) rfl rfl rfl h3).trans <|
    (runs_stps (q' := (82, [.ref 20, .null, .int x2, .int x3, .int x4, .int x5, .int x6, .null], [.int x5, .int r1], w1)) 1 rfl).trans <|
    (runs_if_t (a := 89) (b := 85) (L := [.ref 20, .null, .int x2, .int x3, .int x4, .int x5, .int x6, .null]) (st := []) (w := w1) rfl h4).trans <|
    (runs_stps (q' := (94, [.ref 20, .null, .int x2, .int x3, .int x4, .int x5, .int x6, .int 0], [.int 0], w1)) 3 rfl).trans <|
    (runs_if_f (a := 111) (b := 97) (L := [.ref 20, .null, .int x2, .int x3, .int x4, .int x5, .int x6, .int 0]) (st := []) (w := w1) rfl h5).trans <|
    (runs_stps (q' := (102, [.ref 20, .null, .int x2, .int x3, .int x4, .int x5, .int x6, .int 0], [.int x4, .int x6, .ref 20], w1)) 3 rfl).trans <|
    (runs_callV (rv := some (.int r2)) (w' := w2) rfl rfl rfl rfl h6).trans <|
    (runs_stps (q' := (106, [.ref 20, .null, .int x2, .int x3, .int x4, .int x5, .int x6, .int 0], [.int x2, .int r2], w2)) 1 rfl).trans <|
    (runs_if_f (a := 109) (b := 111) (L := [.ref 20, .null, .int x2, .int x3, .int x4, .int x5, .int x6, .int 0]) (st := []) (w := w2) rfl h7).trans <|
    (runs_stps (q' := (55, [.ref 20, .null, .int x2, .int x3, .int x4, .int x5, .int (x6 + 1), .null], [], w2)) 2 rfl).trans <|
    rfl
  · exact (runs_stps (q' := (63, [.ref 27, .null, .int x2, .int x3, .int x4, .int x5, .int x6, .null], [.int (1 <<< ((w.1 27 6) &&& 31)), .int x6], w)) 5 rfl).trans <|
    (runs_if_f (a := 117) (b := 66) (L := [.ref 27, .null, .int x2, .int x3, .int x4, .int x5, .int x6, .null]) (st := []) (w := w) rfl h1).trans <|
    (runs_stps (q' := (72, [.ref 27, .null, .int x2, .int x3, .int x4, .int x5, .int x6, .null], [.int (x6 &&& (x3 ^^^ (-1)))], w)) 5 rfl).trans <|
    (runs_if_t (a := 75) (b := 89) (L := [.ref 27, .null, .int x2, .int x3, .int x4, .int x5, .int x6, .null]) (st := []) (w := w) rfl h2).trans <|
    (runs_stps (q' := (77, [.ref 27, .null, .int x2, .int x3, .int x4, .int x5, .int x6, .null], [.int x6], w)) 1 rfl).trans <|
    (runs_callS (rv := some (.int r1)) (w' := w1) rfl rfl rfl h3).trans <|
    (runs_stps (q' := (82, [.ref 27, .null, .int x2, .int x3, .int x4, .int x5, .int x6, .null], [.int x5, .int r1], w1)) 1 rfl).trans <|
    (runs_if_t (a := 89) (b := 85) (L := [.ref 27, .null, .int x2, .int x3, .int x4, .int x5, .int x6, .null]) (st := []) (w := w1) rfl h4).trans <|
    (runs_stps (q' := (94, [.ref 27, .null, .int x2, .int x3, .int x4, .int x5, .int x6, .int 0], [.int 0], w1)) 3 rfl).trans <|
    (runs_if_f (a := 111) (b := 97) (L := [.ref 27, .null, .int x2, .int x3, .int x4, .int x5, .int x6, .int 0]) (st := []) (w := w1) rfl h5).trans <|
    (runs_stps (q' := (102, [.ref 27, .null, .int x2, .int x3, .int x4, .int x5, .int x6, .int 0], [.int x4, .int x6, .ref 27], w1)) 3 rfl).trans <|
    (runs_callV (rv := some (.int r2)) (w' := w2) rfl rfl rfl rfl h6).trans <|
    (runs_stps (q' := (106, [.ref 27, .null, .int x2, .int x3, .int x4, .int x5, .int x6, .int 0], [.int x2, .int r2], w2)) 1 rfl).trans <|
    (runs_if_f (a := 109) (b := 111) (L := [.ref 27, .null, .int x2, .int x3, .int x4, .int x5, .int x6, .int 0]) (st := []) (w := w2) rfl h7).trans <|
    (runs_stps (q' := (55, [.ref 27, .null, .int x2, .int x3, .int x4, .int x5, .int (x6 + 1), .null], [], w2)) 2 rfl).trans <|
    rfl
theorem p_X5_hasWay_55FFTFF_R {ex : Ex} {p : Nat} {v1 : Value} {x2 : Int32} {x3 : Int32} {x4 : Int32} {x5 : Int32} {x6 : Int32} {v7 : Value} {r1 : Int32} {w1 : Wd} {r2 : Int32} {w2 : Wd} {w : Wd} (hp : scp p) (h1 : ¬ (1 <<< ((w.1 p 6) &&& 31)) ≤ x6) (h2 : (x6 &&& (x3 ^^^ (-1))) = 0) (h3 : ex 198 [.int x6] w = some (some (.int r1), w1)) (h4 : x5 < r1) (h5 : ¬ (0 : Int32) = 0) (h6 : ex 80 [.ref p, .int x6, .int x4] w1 = some (some (.int r2), w2)) (h7 : r2 = x2) : runs (T_X5_hasWay ex) (55, [.ref p, v1, .int x2, .int x3, .int x4, .int x5, .int x6, v7], [], w) = some (some (.int 1), w2) := by
  rcases hp with rfl | rfl
  · exact (runs_stps (q' := (63, [.ref 20, .null, .int x2, .int x3, .int x4, .int x5, .int x6, .null], [.int (1 <<< ((w.1 20 6) &&& 31)), .int x6], w)) 5 rfl).trans <|
    (runs_if_f (a := 117) (b := 66) (L := [.ref 20, .null, .int x2, .int x3, .int x4, .int x5, .int x6, .null]) (st := []) (w := w) rfl h1).trans <|
    (runs_stps (q' := (72, [.ref 20, .null, .int x2, .int x3, .int x4, .int x5, .int x6, .null], [.int (x6 &&& (x3 ^^^ (-1)))], w)) 5 rfl).trans <|
    (runs_if_t (a := 75) (b := 89) (L := [.ref 20, .null, .int x2, .int x3, .int x4, .int x5, .int x6, .null]) (st := []) (w := w) rfl h2).trans <|
    (runs_stps (q' := (77, [.ref 20, .null, .int x2, .int x3, .int x4, .int x5, .int x6, .null], [.int x6], w)) 1 rfl).trans <|
    (runs_callS (rv := some (.int r1)) (w' := w1) rfl rfl rfl h3).trans <|
    (runs_stps (q' := (82, [.ref 20, .null, .int x2, .int x3, .int x4, .int x5, .int x6, .null], [.int x5, .int r1], w1)) 1 rfl).trans <|
    (runs_if_t (a := 89) (b := 85) (L := [.ref 20, .null, .int x2, .int x3, .int x4, .int x5, .int x6, .null]) (st := []) (w := w1) rfl h4).trans <|
    (runs_stps (q' := (94, [.ref 20, .null, .int x2, .int x3, .int x4, .int x5, .int x6, .int 0], [.int 0], w1)) 3 rfl).trans <|
    (runs_if_f (a := 111) (b := 97) (L := [.ref 20, .null, .int x2, .int x3, .int x4, .int x5, .int x6, .int 0]) (st := []) (w := w1) rfl h5).trans <|
    (runs_stps (q' := (102, [.ref 20, .null, .int x2, .int x3, .int x4, .int x5, .int x6, .int 0], [.int x4, .int x6, .ref 20], w1)) 3 rfl).trans <|
    (runs_callV (rv := some (.int r2)) (w' := w2) rfl rfl rfl rfl h6).trans <|
    (runs_stps (q' := (106, [.ref 20, .null, .int x2, .int x3, .int x4, .int x5, .int x6, .int 0], [.int x2, .int r2], w2)) 1 rfl).trans <|
    (runs_if_t (a := 109) (b := 111) (L := [.ref 20, .null, .int x2, .int x3, .int x4, .int x5, .int x6, .int 0]) (st := []) (w := w2) rfl h7).trans <|
    (runs_stps (q' := (110, [.ref 20, .null, .int x2, .int x3, .int x4, .int x5, .int x6, .int 0], [.int 1], w2)) 1 rfl).trans <|
    runs_ret rfl
  · exact (runs_stps (q' := (63, [.ref 27, .null, .int x2, .int x3, .int x4, .int x5, .int x6, .null], [.int (1 <<< ((w.1 27 6) &&& 31)), .int x6], w)) 5 rfl).trans <|
    (runs_if_f (a := 117) (b := 66) (L := [.ref 27, .null, .int x2, .int x3, .int x4, .int x5, .int x6, .null]) (st := []) (w := w) rfl h1).trans <|
    (runs_stps (q' := (72, [.ref 27, .null, .int x2, .int x3, .int x4, .int x5, .int x6, .null], [.int (x6 &&& (x3 ^^^ (-1)))], w)) 5 rfl).trans <|
    (runs_if_t (a := 75) (b := 89) (L := [.ref 27, .null, .int x2, .int x3, .int x4, .int x5, .int x6, .null]) (st := []) (w := w) rfl h2).trans <|
    (runs_stps (q' := (77, [.ref 27, .null, .int x2, .int x3, .int x4, .int x5, .int x6, .null], [.int x6], w)) 1 rfl).trans <|
    (runs_callS (rv := some (.int r1)) (w' := w1) rfl rfl rfl h3).trans <|
    (runs_stps (q' := (82, [.ref 27, .null, .int x2, .int x3, .int x4, .int x5, .int x6, .null], [.int x5, .int r1], w1)) 1 rfl).trans <|
    (runs_if_t (a := 89) (b := 85) (L := [.ref 27, .null, .int x2, .int x3, .int x4, .int x5, .int x6, .null]) (st := []) (w := w1) rfl h4).trans <|
    (runs_stps (q' := (94, [.ref 27, .null, .int x2, .int x3, .int x4, .int x5, .int x6, .int 0], [.int 0], w1)) 3 rfl).trans <|
    (runs_if_f (a := 111) (b := 97) (L := [.ref 27, .null, .int x2, .int x3, .int x4, .int x5, .int x6, .int 0]) (st := []) (w := w1) rfl h5).trans <|
    (runs_stps (q' := (102, [.ref 27, .null, .int x2, .int x3, .int x4, .int x5, .int x6, .int 0], [.int x4, .int x6, .ref 27], w1)) 3 rfl).trans <|
    (runs_callV (rv := some (.int r2)) (w' := w2) rfl rfl rfl rfl h6).trans <|
    (runs_stps (q' := (106, [.ref 27, .null, .int x2, .int x3, .int x4, .int x5, .int x6, .int 0], [.int x2, .int r2], w2)) 1 rfl).trans <|
    (runs_if_t (a := 109) (b := 111) (L := [.ref 27, .null, .int x2, .int x3, .int x4, .int x5, .int x6, .int 0]) (st := []) (w := w2) rfl h7).trans <|
    (runs_stps (q' := (110, [.ref 27, .null, .int x2, .int x3, .int x4, .int x5, .int x6, .int 0], [.int 1], w2)) 1 rfl).trans <|
    runs_ret rfl
theorem p_X5_hasWay_55FFFT_L55 {ex : Ex} {p : Nat} {v1 : Value} {x2 : Int32} {x3 : Int32} {x4 : Int32} {x5 : Int32} {x6 : Int32} {v7 : Value} {r1 : Int32} {w1 : Wd} {w : Wd} (hp : scp p) (h1 : ¬ (1 <<< ((w.1 p 6) &&& 31)) ≤ x6) (h2 : (x6 &&& (x3 ^^^ (-1))) = 0) (h3 : ex 198 [.int x6] w = some (some (.int r1), w1)) (h4 : ¬ x5 < r1) (h5 : (1 : Int32) = 0) : runs (T_X5_hasWay ex) (55, [.ref p, v1, .int x2, .int x3, .int x4, .int x5, .int x6, v7], [], w) = runs (T_X5_hasWay ex) (55, [.ref p, .null, .int x2, .int x3, .int x4, .int x5, .int (x6 + 1), .null], [], w1) := by
  rcases hp with rfl | rfl
  · exact (runs_stps (q' := (63, [.ref 20, .null, .int x2, .int x3, .int x4, .int x5, .int x6, .null], [.int (1 <<< ((w.1 20 6) &&& 31)), .int x6], w)) 5 rfl).trans <|
    (runs_if_f (a := 117) (b := 66) (L := [.ref 20, .null, .int x2, .int x3, .int x4, .int x5, .int x6, .null]) (st := []) (w := w) rfl h1).trans <|
    (runs_stps (q' := (72, [.ref 20, .null, .int x2, .int x3, .int x4, .int x5, .int x6, .null], [.int (x6 &&& (x3 ^^^ (-1)))], w)) 5 rfl).trans <|
    (runs_if_t (a := 75) (b := 89) (L := [.ref 20, .null, .int x2, .int x3, .int x4, .int x5, .int x6, .null]) (st := []) (w := w) rfl h2).trans <|
    (runs_stps (q' := (77, [.ref 20, .null, .int x2, .int x3, .int x4, .int x5, .int x6, .null], [.int x6], w)) 1 rfl).trans <|
    (runs_callS (rv := some (.int r1)) (w' := w1) rfl rfl rfl h3).trans <|
    (runs_stps (q' := (82, [.ref 20, .null, .int x2, .int x3, .int x4, .int x5, .int x6, .null], [.int x5, .int r1], w1)) 1 rfl).trans <|
    (runs_if_f (a := 89) (b := 85) (L := [.ref 20, .null, .int x2, .int x3, .int x4, .int x5, .int x6, .null]) (st := []) (w := w1) rfl h4).trans <|
    (runs_stps (q' := (94, [.ref 20, .null, .int x2, .int x3, .int x4, .int x5, .int x6, .int 1], [.int 1], w1)) 4 rfl).trans <|
    (runs_if_t (a := 111) (b := 97) (L := [.ref 20, .null, .int x2, .int x3, .int x4, .int x5, .int x6, .int 1]) (st := []) (w := w1) rfl h5).trans <|
    (runs_stps (q' := (55, [.ref 20, .null, .int x2, .int x3, .int x4, .int x5, .int (x6 + 1), .null], [], w1)) 2 rfl).trans <|
    rfl
  · exact (runs_stps (q' := (63, [.ref 27, .null, .int x2, .int x3, .int x4, .int x5, .int x6, .null], [.int (1 <<< ((w.1 27 6) &&& 31)), .int x6], w)) 5 rfl).trans <|
    (runs_if_f (a := 117) (b := 66) (L := [.ref 27, .null, .int x2, .int x3, .int x4, .int x5, .int x6, .null]) (st := []) (w := w) rfl h1).trans <|
    (runs_stps (q' := (72, [.ref 27, .null, .int x2, .int x3, .int x4, .int x5, .int x6, .null], [.int (x6 &&& (x3 ^^^ (-1)))], w)) 5 rfl).trans <|
    (runs_if_t (a := 75) (b := 89) (L := [.ref 27, .null, .int x2, .int x3, .int x4, .int x5, .int x6, .null]) (st := []) (w := w) rfl h2).trans <|
    (runs_stps (q' := (77, [.ref 27, .null, .int x2, .int x3, .int x4, .int x5, .int x6, .null], [.int x6], w)) 1 rfl).trans <|
    (runs_callS (rv := some (.int r1)) (w' := w1) rfl rfl rfl h3).trans <|
    (runs_stps (q' := (82, [.ref 27, .null, .int x2, .int x3, .int x4, .int x5, .int x6, .null], [.int x5, .int r1], w1)) 1 rfl).trans <|
    (runs_if_f (a := 89) (b := 85) (L := [.ref 27, .null, .int x2, .int x3, .int x4, .int x5, .int x6, .null]) (st := []) (w := w1) rfl h4).trans <|
    (runs_stps (q' := (94, [.ref 27, .null, .int x2, .int x3, .int x4, .int x5, .int x6, .int 1], [.int 1], w1)) 4 rfl).trans <|
    (runs_if_t (a := 111) (b := 97) (L := [.ref 27, .null, .int x2, .int x3, .int x4, .int x5, .int x6, .int 1]) (st := []) (w := w1) rfl h5).trans <|
    (runs_stps (q' := (55, [.ref 27, .null, .int x2, .int x3, .int x4, .int x5, .int (x6 + 1), .null], [], w1)) 2 rfl).trans <|
    rfl
theorem p_X5_hasWay_55FFFFT_L55 {ex : Ex} {p : Nat} {v1 : Value} {x2 : Int32} {x3 : Int32} {x4 : Int32} {x5 : Int32} {x6 : Int32} {v7 : Value} {r1 : Int32} {w1 : Wd} {r2 : Int32} {w2 : Wd} {w : Wd} (hp : scp p) (h1 : ¬ (1 <<< ((w.1 p 6) &&& 31)) ≤ x6) (h2 : (x6 &&& (x3 ^^^ (-1))) = 0) (h3 : ex 198 [.int x6] w = some (some (.int r1), w1)) (h4 : ¬ x5 < r1) (h5 : ¬ (1 : Int32) = 0) (h6 : ex 80 [.ref p, .int x6, .int x4] w1 = some (some (.int r2), w2)) (h7 : ¬ r2 = x2) : runs (T_X5_hasWay ex) (55, [.ref p, v1, .int x2, .int x3, .int x4, .int x5, .int x6, v7], [], w) = runs (T_X5_hasWay ex) (55, [.ref p, .null, .int x2, .int x3, .int x4, .int x5, .int (x6 + 1), .null], [], w2) := by
  rcases hp with rfl | rfl
  · exact (runs_stps (q' := (63, [.ref 20, .null, .int x2, .int x3, .int x4, .int x5, .int x6, .null], [.int (1 <<< ((w.1 20 6) &&& 31)), .int x6], w)) 5 rfl).trans <|
    (runs_if_f (a := 117) (b := 66) (L := [.ref 20, .null, .int x2, .int x3, .int x4, .int x5, .int x6, .null]) (st := []) (w := w) rfl h1).trans <|
    (runs_stps (q' := (72, [.ref 20, .null, .int x2, .int x3, .int x4, .int x5, .int x6, .null], [.int (x6 &&& (x3 ^^^ (-1)))], w)) 5 rfl).trans <|
    (runs_if_t (a := 75) (b := 89) (L := [.ref 20, .null, .int x2, .int x3, .int x4, .int x5, .int x6, .null]) (st := []) (w := w) rfl h2).trans <|
    (runs_stps (q' := (77, [.ref 20, .null, .int x2, .int x3, .int x4, .int x5, .int x6, .null], [.int x6], w)) 1 rfl).trans <|
    (runs_callS (rv := some (.int r1)) (w' := w1) rfl rfl rfl h3).trans <|
    (runs_stps (q' := (82, [.ref 20, .null, .int x2, .int x3, .int x4, .int x5, .int x6, .null], [.int x5, .int r1], w1)) 1 rfl).trans <|
    (runs_if_f (a := 89) (b := 85) (L := [.ref 20, .null, .int x2, .int x3, .int x4, .int x5, .int x6, .null]) (st := []) (w := w1) rfl h4).trans <|
    (runs_stps (q' := (94, [.ref 20, .null, .int x2, .int x3, .int x4, .int x5, .int x6, .int 1], [.int 1], w1)) 4 rfl).trans <|
    (runs_if_f (a := 111) (b := 97) (L := [.ref 20, .null, .int x2, .int x3, .int x4, .int x5, .int x6, .int 1]) (st := []) (w := w1) rfl h5).trans <|
    (runs_stps (q' := (102, [.ref 20, .null, .int x2, .int x3, .int x4, .int x5, .int x6, .int 1], [.int x4, .int x6, .ref 20], w1)) 3 rfl).trans <|
    (runs_callV (rv := some (.int r2)) (w' := w2) rfl rfl rfl rfl h6).trans <|
    (runs_stps (q' := (106, [.ref 20, .null, .int x2, .int x3, .int x4, .int x5, .int x6, .int 1], [.int x2, .int r2], w2)) 1 rfl).trans <|
    (runs_if_f (a := 109) (b := 111) (L := [.ref 20, .null, .int x2, .int x3, .int x4, .int x5, .int x6, .int 1]) (st := []) (w := w2) rfl h7).trans <|
    (runs_stps (q' := (55, [.ref 20, .null, .int x2, .int x3, .int x4, .int x5, .int (x6 + 1), .null], [], w2)) 2 rfl).trans <|
    rfl
  · exact (runs_stps (q' := (63, [.ref 27, .null, .int x2, .int x3, .int x4, .int x5, .int x6, .null], [.int (1 <<< ((w.1 27 6) &&& 31)), .int x6], w)) 5 rfl).trans <|
    (runs_if_f (a := 117) (b := 66) (L := [.ref 27, .null, .int x2, .int x3, .int x4, .int x5, .int x6, .null]) (st := []) (w := w) rfl h1).trans <|
    (runs_stps (q' := (72, [.ref 27, .null, .int x2, .int x3, .int x4, .int x5, .int x6, .null], [.int (x6 &&& (x3 ^^^ (-1)))], w)) 5 rfl).trans <|
    (runs_if_t (a := 75) (b := 89) (L := [.ref 27, .null, .int x2, .int x3, .int x4, .int x5, .int x6, .null]) (st := []) (w := w) rfl h2).trans <|
    (runs_stps (q' := (77, [.ref 27, .null, .int x2, .int x3, .int x4, .int x5, .int x6, .null], [.int x6], w)) 1 rfl).trans <|
    (runs_callS (rv := some (.int r1)) (w' := w1) rfl rfl rfl h3).trans <|
    (runs_stps (q' := (82, [.ref 27, .null, .int x2, .int x3, .int x4, .int x5, .int x6, .null], [.int x5, .int r1], w1)) 1 rfl).trans <|
    (runs_if_f (a := 89) (b := 85) (L := [.ref 27, .null, .int x2, .int x3, .int x4, .int x5, .int x6, .null]) (st := []) (w := w1) rfl h4).trans <|
    (runs_stps (q' := (94, [.ref 27, .null, .int x2, .int x3, .int x4, .int x5, .int x6, .int 1], [.int 1], w1)) 4 rfl).trans <|
    (runs_if_f (a := 111) (b := 97) (L := [.ref 27, .null, .int x2, .int x3, .int x4, .int x5, .int x6, .int 1]) (st := []) (w := w1) rfl h5).trans <|
    (runs_stps (q' := (102, [.ref 27, .null, .int x2, .int x3, .int x4, .int x5, .int x6, .int 1], [.int x4, .int x6, .ref 27], w1)) 3 rfl).trans <|
    (runs_callV (rv := some (.int r2)) (w' := w2) rfl rfl rfl rfl h6).trans <|
    (runs_stps (q' := (106, [.ref 27, .null, .int x2, .int x3, .int x4, .int x5, .int x6, .int 1], [.int x2, .int r2], w2)) 1 rfl).trans <|
    (runs_if_f (a := 109) (b := 111) (L := [.ref 27, .null, .int x2, .int x3, .int x4, .int x5, .int x6, .int 1]) (st := []) (w := w2) rfl h7).trans <|
    (runs_stps (q' := (55, [.ref 27, .null, .int x2, .int x3, .int x4, .int x5, .int (x6 + 1), .null], [], w2)) 2 rfl).trans <|
    rfl
theorem p_X5_hasWay_55FFFFF_R {ex : Ex} {p : Nat} {v1 : Value} {x2 : Int32} {x3 : Int32} {x4 : Int32} {x5 : Int32} {x6 : Int32} {v7 : Value} {r1 : Int32} {w1 : Wd} {r2 : Int32} {w2 : Wd} {w : Wd} (hp : scp p) (h1 : ¬ (1 <<< ((w.1 p 6) &&& 31)) ≤ x6) (h2 : (x6 &&& (x3 ^^^ (-1))) = 0) (h3 : ex 198 [.int x6] w = some (some (.int r1), w1)) (h4 : ¬ x5 < r1) (h5 : ¬ (1 : Int32) = 0) (h6 : ex 80 [.ref p, .int x6, .int x4] w1 = some (some (.int r2), w2)) (h7 : r2 = x2) : runs (T_X5_hasWay ex) (55, [.ref p, v1, .int x2, .int x3, .int x4, .int x5, .int x6, v7], [], w) = some (some (.int 1), w2) := by
  rcases hp with rfl | rfl
  · exact (runs_stps (q' := (63, [.ref 20, .null, .int x2, .int x3, .int x4, .int x5, .int x6, .null], [.int (1 <<< ((w.1 20 6) &&& 31)), .int x6], w)) 5 rfl).trans <|
    (runs_if_f (a := 117) (b := 66) (L := [.ref 20, .null, .int x2, .int x3, .int x4, .int x5, .int x6, .null]) (st := []) (w := w) rfl h1).trans <|
    (runs_stps (q' := (72, [.ref 20, .null, .int x2, .int x3, .int x4, .int x5, .int x6, .null], [.int (x6 &&& (x3 ^^^ (-1)))], w)) 5 rfl).trans <|
    (runs_if_t (a := 75) (b := 89) (L := [.ref 20, .null, .int x2, .int x3, .int x4, .int x5, .int x6, .null]) (st := []) (w := w) rfl h2).trans <|
    (runs_stps (q' := (77, [.ref 20, .null, .int x2, .int x3, .int x4, .int x5, .int x6, .null], [.int x6], w)) 1 rfl).trans <|
    (runs_callS (rv := some (.int r1)) (w' := w1) rfl rfl rfl h3).trans <|
    (runs_stps (q' := (82, [.ref 20, .null, .int x2, .int x3, .int x4, .int x5, .int x6, .null], [.int x5, .int r1], w1)) 1 rfl).trans <|
    (runs_if_f (a := 89) (b := 85) (L := [.ref 20, .null, .int x2, .int x3, .int x4, .int x5, .int x6, .null]) (st := []) (w := w1) rfl h4).trans <|
    (runs_stps (q' := (94, [.ref 20, .null, .int x2, .int x3, .int x4, .int x5, .int x6, .int 1], [.int 1], w1)) 4 rfl).trans <|
    (runs_if_f (a := 111) (b := 97) (L := [.ref 20, .null, .int x2, .int x3, .int x4, .int x5, .int x6, .int 1]) (st := []) (w := w1) rfl h5).trans <|
    (runs_stps (q' := (102, [.ref 20, .null, .int x2, .int x3, .int x4, .int x5, .int x6, .int 1], [.int x4, .int x6, .ref 20], w1)) 3 rfl).trans <|
    (runs_callV (rv := some (.int r2)) (w' := w2) rfl rfl rfl rfl h6).trans <|
    (runs_stps (q' := (106, [.ref 20, .null, .int x2, .int x3, .int x4, .int x5, .int x6, .int 1], [.int x2, .int r2], w2)) 1 rfl).trans <|
    (runs_if_t (a := 109) (b := 111) (L := [.ref 20, .null, .int x2, .int x3, .int x4, .int x5, .int x6, .int 1]) (st := []) (w := w2) rfl h7).trans <|
    (runs_stps (q' := (110, [.ref 20, .null, .int x2, .int x3, .int x4, .int x5, .int x6, .int 1], [.int 1], w2)) 1 rfl).trans <|
    runs_ret rfl
  · exact (runs_stps (q' := (63, [.ref 27, .null, .int x2, .int x3, .int x4, .int x5, .int x6, .null], [.int (1 <<< ((w.1 27 6) &&& 31)), .int x6], w)) 5 rfl).trans <|
    (runs_if_f (a := 117) (b := 66) (L := [.ref 27, .null, .int x2, .int x3, .int x4, .int x5, .int x6, .null]) (st := []) (w := w) rfl h1).trans <|
    (runs_stps (q' := (72, [.ref 27, .null, .int x2, .int x3, .int x4, .int x5, .int x6, .null], [.int (x6 &&& (x3 ^^^ (-1)))], w)) 5 rfl).trans <|
    (runs_if_t (a := 75) (b := 89) (L := [.ref 27, .null, .int x2, .int x3, .int x4, .int x5, .int x6, .null]) (st := []) (w := w) rfl h2).trans <|
    (runs_stps (q' := (77, [.ref 27, .null, .int x2, .int x3, .int x4, .int x5, .int x6, .null], [.int x6], w)) 1 rfl).trans <|
    (runs_callS (rv := some (.int r1)) (w' := w1) rfl rfl rfl h3).trans <|
    (runs_stps (q' := (82, [.ref 27, .null, .int x2, .int x3, .int x4, .int x5, .int x6, .null], [.int x5, .int r1], w1)) 1 rfl).trans <|
    (runs_if_f (a := 89) (b := 85) (L := [.ref 27, .null, .int x2, .int x3, .int x4, .int x5, .int x6, .null]) (st := []) (w := w1) rfl h4).trans <|
    (runs_stps (q' := (94, [.ref 27, .null, .int x2, .int x3, .int x4, .int x5, .int x6, .int 1], [.int 1], w1)) 4 rfl).trans <|
    (runs_if_f (a := 111) (b := 97) (L := [.ref 27, .null, .int x2, .int x3, .int x4, .int x5, .int x6, .int 1]) (st := []) (w := w1) rfl h5).trans <|
    (runs_stps (q' := (102, [.ref 27, .null, .int x2, .int x3, .int x4, .int x5, .int x6, .int 1], [.int x4, .int x6, .ref 27], w1)) 3 rfl).trans <|
    (runs_callV (rv := some (.int r2)) (w' := w2) rfl rfl rfl rfl h6).trans <|
    (runs_stps (q' := (106, [.ref 27, .null, .int x2, .int x3, .int x4, .int x5, .int x6, .int 1], [.int x2, .int r2], w2)) 1 rfl).trans <|
    (runs_if_t (a := 109) (b := 111) (L := [.ref 27, .null, .int x2, .int x3, .int x4, .int x5, .int x6, .int 1]) (st := []) (w := w2) rfl h7).trans <|
    (runs_stps (q' := (110, [.ref 27, .null, .int x2, .int x3, .int x4, .int x5, .int x6, .int 1], [.int 1], w2)) 1 rfl).trans <|
    runs_ret rfl
theorem p_X5_fewestFor_0_L2 {ex : Ex} {p : Nat} {x1 : Int32} {w : Wd} (hp : scp p) : runs (T_X5_fewestFor ex) (0, [.ref p, .int x1, .null, .null], [], w) = runs (T_X5_fewestFor ex) (2, [.ref p, .int x1, .int 0, .null], [], w) := by
  rcases hp with rfl | rfl
  · exact (runs_stps (q' := (2, [.ref 20, .int x1, .int 0, .null], [], w)) 2 rfl).trans <|
    rfl
  · exact (runs_stps (q' := (2, [.ref 27, .int x1, .int 0, .null], [], w)) 2 rfl).trans <|
    rfl
theorem p_X5_fewestFor_2T_R {ex : Ex} {p : Nat} {x1 : Int32} {x2 : Int32} {v3 : Value} {w : Wd} (hp : scp p) (h1 : (w.1 p 6) < x2) : runs (T_X5_fewestFor ex) (2, [.ref p, .int x1, .int x2, v3], [], w) = some (some (.int (-1)), w) := by
  rcases hp with rfl | rfl
  · exact (runs_stps (q' := (7, [.ref 20, .int x1, .int x2, .null], [.int (w.1 20 6), .int x2], w)) 3 rfl).trans <|
    (runs_if_t (a := 54) (b := 10) (L := [.ref 20, .int x1, .int x2, .null]) (st := []) (w := w) rfl h1).trans <|
    (runs_stps (q' := (55, [.null, .null, .null, .null], [.int (-1)], w)) 1 rfl).trans <|
    runs_ret rfl
  · exact (runs_stps (q' := (7, [.ref 27, .int x1, .int x2, .null], [.int (w.1 27 6), .int x2], w)) 3 rfl).trans <|
    (runs_if_t (a := 54) (b := 10) (L := [.ref 27, .int x1, .int x2, .null]) (st := []) (w := w) rfl h1).trans <|
    (runs_stps (q' := (55, [.null, .null, .null, .null], [.int (-1)], w)) 1 rfl).trans <|
    runs_ret rfl
theorem p_X5_fewestFor_2F_L12 {ex : Ex} {p : Nat} {x1 : Int32} {x2 : Int32} {v3 : Value} {w : Wd} (hp : scp p) (h1 : ¬ (w.1 p 6) < x2) : runs (T_X5_fewestFor ex) (2, [.ref p, .int x1, .int x2, v3], [], w) = runs (T_X5_fewestFor ex) (12, [.ref p, .int x1, .int x2, .int 0], [], w) := by
  rcases hp with rfl | rfl
  · exact (runs_stps (q' := (7, [.ref 20, .int x1, .int x2, .null], [.int (w.1 20 6), .int x2], w)) 3 rfl).trans <|
    (runs_if_f (a := 54) (b := 10) (L := [.ref 20, .int x1, .int x2, .null]) (st := []) (w := w) rfl h1).trans <|
    (runs_stps (q' := (12, [.ref 20, .int x1, .int x2, .int 0], [], w)) 2 rfl).trans <|
    rfl
  · exact (runs_stps (q' := (7, [.ref 27, .int x1, .int x2, .null], [.int (w.1 27 6), .int x2], w)) 3 rfl).trans <|
    (runs_if_f (a := 54) (b := 10) (L := [.ref 27, .int x1, .int x2, .null]) (st := []) (w := w) rfl h1).trans <|
    (runs_stps (q' := (12, [.ref 27, .int x1, .int x2, .int 0], [], w)) 2 rfl).trans <|
    rfl
theorem p_X5_fewestFor_12T_L2 {ex : Ex} {p : Nat} {x1 : Int32} {x2 : Int32} {x3 : Int32} {w : Wd} (hp : scp p) (h1 : (1 <<< ((w.1 p 6) &&& 31)) ≤ x3) : runs (T_X5_fewestFor ex) (12, [.ref p, .int x1, .int x2, .int x3], [], w) = runs (T_X5_fewestFor ex) (2, [.ref p, .int x1, .int (x2 + 1), .null], [], w) := by
  rcases hp with rfl | rfl
  · exact (runs_stps (q' := (19, [.ref 20, .int x1, .int x2, .int x3], [.int (1 <<< ((w.1 20 6) &&& 31)), .int x3], w)) 5 rfl).trans <|
    (runs_if_t (a := 48) (b := 22) (L := [.ref 20, .int x1, .int x2, .int x3]) (st := []) (w := w) rfl h1).trans <|
    (runs_stps (q' := (2, [.ref 20, .int x1, .int (x2 + 1), .null], [], w)) 2 rfl).trans <|
    rfl
  · exact (runs_stps (q' := (19, [.ref 27, .int x1, .int x2, .int x3], [.int (1 <<< ((w.1 27 6) &&& 31)), .int x3], w)) 5 rfl).trans <|
    (runs_if_t (a := 48) (b := 22) (L := [.ref 27, .int x1, .int x2, .int x3]) (st := []) (w := w) rfl h1).trans <|
    (runs_stps (q' := (2, [.ref 27, .int x1, .int (x2 + 1), .null], [], w)) 2 rfl).trans <|
    rfl
theorem p_X5_fewestFor_12FT_L12 {ex : Ex} {p : Nat} {x1 : Int32} {x2 : Int32} {x3 : Int32} {r1 : Int32} {w1 : Wd} {w : Wd} (hp : scp p) (h1 : ¬ (1 <<< ((w.1 p 6) &&& 31)) ≤ x3) (h2 : ex 198 [.int x3] w = some (some (.int r1), w1)) (h3 : ¬ r1 = x2) : runs (T_X5_fewestFor ex) (12, [.ref p, .int x1, .int x2, .int x3], [], w) = runs (T_X5_fewestFor ex) (12, [.ref p, .int x1, .int x2, .int (x3 + 1)], [], w1) := by
  rcases hp with rfl | rfl
  · exact (runs_stps (q' := (19, [.ref 20, .int x1, .int x2, .int x3], [.int (1 <<< ((w.1 20 6) &&& 31)), .int x3], w)) 5 rfl).trans <|
    (runs_if_f (a := 48) (b := 22) (L := [.ref 20, .int x1, .int x2, .int x3]) (st := []) (w := w) rfl h1).trans <|
    (runs_stps (q' := (23, [.ref 20, .int x1, .int x2, .int x3], [.int x3], w)) 1 rfl).trans <|
    (runs_callS (rv := some (.int r1)) (w' := w1) rfl rfl rfl h2).trans <|
    (runs_stps (q' := (27, [.ref 20, .int x1, .int x2, .int x3], [.int x2, .int r1], w1)) 1 rfl).trans <|
    (runs_if_f (a := 30) (b := 42) (L := [.ref 20, .int x1, .int x2, .int x3]) (st := []) (w := w1) rfl h3).trans <|
    (runs_stps (q' := (12, [.ref 20, .int x1, .int x2, .int (x3 + 1)], [], w1)) 2 rfl).trans <|
    rfl
  · exact (runs_stps (q' := (19, [.ref 27, .int x1, .int x2, .int x3], [.int (1 <<< ((w.1 27 6) &&& 31)), .int x3], w)) 5 rfl).trans <|
    (runs_if_f (a := 48) (b := 22) (L := [.ref 27, .int x1, .int x2, .int x3]) (st := []) (w := w) rfl h1).trans <|
    (runs_stps (q' := (23, [.ref 27, .int x1, .int x2, .int x3], [.int x3], w)) 1 rfl).trans <|
    (runs_callS (rv := some (.int r1)) (w' := w1) rfl rfl rfl h2).trans <|
    (runs_stps (q' := (27, [.ref 27, .int x1, .int x2, .int x3], [.int x2, .int r1], w1)) 1 rfl).trans <|
    (runs_if_f (a := 30) (b := 42) (L := [.ref 27, .int x1, .int x2, .int x3]) (st := []) (w := w1) rfl h3).trans <|
    (runs_stps (q' := (12, [.ref 27, .int x1, .int x2, .int (x3 + 1)], [], w1)) 2 rfl).trans <|
    rfl
theorem p_X5_fewestFor_12FFT_L12 {ex : Ex} {p : Nat} {x1 : Int32} {x2 : Int32} {x3 : Int32} {r1 : Int32} {w1 : Wd} {r2 : Int32} {w2 : Wd} {w : Wd} (hp : scp p) (h1 : ¬ (1 <<< ((w.1 p 6) &&& 31)) ≤ x3) (h2 : ex 198 [.int x3] w = some (some (.int r1), w1)) (h3 : r1 = x2) (h4 : ex 80 [.ref p, .int x3, .int 0] w1 = some (some (.int r2), w2)) (h5 : ¬ r2 = x1) : runs (T_X5_fewestFor ex) (12, [.ref p, .int x1, .int x2, .int x3], [], w) = runs (T_X5_fewestFor ex) (12, [.ref p, .int x1, .int x2, .int (x3 + 1)], [], w2) := by
  rcases hp with rfl | rfl
  · exact (runs_stps (q' := (19, [.ref 20, .int x1, .int x2, .int x3], [.int (1 <<< ((w.1 20 6) &&& 31)), .int x3], w)) 5 rfl).trans <|
    (runs_if_f (a := 48) (b := 22) (L := [.ref 20, .int x1, .int x2, .int x3]) (st := []) (w := w) rfl h1).trans <|
    (runs_stps (q' := (23, [.ref 20, .int x1, .int x2, .int x3], [.int x3], w)) 1 rfl).trans <|
    (runs_callS (rv := some (.int r1)) (w' := w1) rfl rfl rfl h2).trans <|
    (runs_stps (q' := (27, [.ref 20, .int x1, .int x2, .int x3], [.int x2, .int r1], w1)) 1 rfl).trans <|
    (runs_if_t (a := 30) (b := 42) (L := [.ref 20, .int x1, .int x2, .int x3]) (st := []) (w := w1) rfl h3).trans <|
    (runs_stps (q' := (33, [.ref 20, .int x1, .int x2, .int x3], [.int 0, .int x3, .ref 20], w1)) 3 rfl).trans <|
    (runs_callV (rv := some (.int r2)) (w' := w2) rfl rfl rfl rfl h4).trans <|
    (runs_stps (q' := (37, [.ref 20, .int x1, .int x2, .int x3], [.int x1, .int r2], w2)) 1 rfl).trans <|
    (runs_if_f (a := 40) (b := 42) (L := [.ref 20, .int x1, .int x2, .int x3]) (st := []) (w := w2) rfl h5).trans <|
    (runs_stps (q' := (12, [.ref 20, .int x1, .int x2, .int (x3 + 1)], [], w2)) 2 rfl).trans <|
    rfl
  · exact (runs_stps (q' := (19, [.ref 27, .int x1, .int x2, .int x3], [.int (1 <<< ((w.1 27 6) &&& 31)), .int x3], w)) 5 rfl).trans <|
    (runs_if_f (a := 48) (b := 22) (L := [.ref 27, .int x1, .int x2, .int x3]) (st := []) (w := w) rfl h1).trans <|
    (runs_stps (q' := (23, [.ref 27, .int x1, .int x2, .int x3], [.int x3], w)) 1 rfl).trans <|
    (runs_callS (rv := some (.int r1)) (w' := w1) rfl rfl rfl h2).trans <|
    (runs_stps (q' := (27, [.ref 27, .int x1, .int x2, .int x3], [.int x2, .int r1], w1)) 1 rfl).trans <|
    (runs_if_t (a := 30) (b := 42) (L := [.ref 27, .int x1, .int x2, .int x3]) (st := []) (w := w1) rfl h3).trans <|
    (runs_stps (q' := (33, [.ref 27, .int x1, .int x2, .int x3], [.int 0, .int x3, .ref 27], w1)) 3 rfl).trans <|
    (runs_callV (rv := some (.int r2)) (w' := w2) rfl rfl rfl rfl h4).trans <|
    (runs_stps (q' := (37, [.ref 27, .int x1, .int x2, .int x3], [.int x1, .int r2], w2)) 1 rfl).trans <|
    (runs_if_f (a := 40) (b := 42) (L := [.ref 27, .int x1, .int x2, .int x3]) (st := []) (w := w2) rfl h5).trans <|
    (runs_stps (q' := (12, [.ref 27, .int x1, .int x2, .int (x3 + 1)], [], w2)) 2 rfl).trans <|
    rfl
theorem p_X5_fewestFor_12FFF_R {ex : Ex} {p : Nat} {x1 : Int32} {x2 : Int32} {x3 : Int32} {r1 : Int32} {w1 : Wd} {r2 : Int32} {w2 : Wd} {w : Wd} (hp : scp p) (h1 : ¬ (1 <<< ((w.1 p 6) &&& 31)) ≤ x3) (h2 : ex 198 [.int x3] w = some (some (.int r1), w1)) (h3 : r1 = x2) (h4 : ex 80 [.ref p, .int x3, .int 0] w1 = some (some (.int r2), w2)) (h5 : r2 = x1) : runs (T_X5_fewestFor ex) (12, [.ref p, .int x1, .int x2, .int x3], [], w) = some (some (.int x3), w2) := by
  rcases hp with rfl | rfl
  · exact (runs_stps (q' := (19, [.ref 20, .int x1, .int x2, .int x3], [.int (1 <<< ((w.1 20 6) &&& 31)), .int x3], w)) 5 rfl).trans <|
    (runs_if_f (a := 48) (b := 22) (L := [.ref 20, .int x1, .int x2, .int x3]) (st := []) (w := w) rfl h1).trans <|
    (runs_stps (q' := (23, [.ref 20, .int x1, .int x2, .int x3], [.int x3], w)) 1 rfl).trans <|
    (runs_callS (rv := some (.int r1)) (w' := w1) rfl rfl rfl h2).trans <|
    (runs_stps (q' := (27, [.ref 20, .int x1, .int x2, .int x3], [.int x2, .int r1], w1)) 1 rfl).trans <|
    (runs_if_t (a := 30) (b := 42) (L := [.ref 20, .int x1, .int x2, .int x3]) (st := []) (w := w1) rfl h3).trans <|
    (runs_stps (q' := (33, [.ref 20, .int x1, .int x2, .int x3], [.int 0, .int x3, .ref 20], w1)) 3 rfl).trans <|
    (runs_callV (rv := some (.int r2)) (w' := w2) rfl rfl rfl rfl h4).trans <|
    (runs_stps (q' := (37, [.ref 20, .int x1, .int x2, .int x3], [.int x1, .int r2], w2)) 1 rfl).trans <|
    (runs_if_t (a := 40) (b := 42) (L := [.ref 20, .int x1, .int x2, .int x3]) (st := []) (w := w2) rfl h5).trans <|
    (runs_stps (q' := (41, [.ref 20, .int x1, .int x2, .int x3], [.int x3], w2)) 1 rfl).trans <|
    runs_ret rfl
  · exact (runs_stps (q' := (19, [.ref 27, .int x1, .int x2, .int x3], [.int (1 <<< ((w.1 27 6) &&& 31)), .int x3], w)) 5 rfl).trans <|
    (runs_if_f (a := 48) (b := 22) (L := [.ref 27, .int x1, .int x2, .int x3]) (st := []) (w := w) rfl h1).trans <|
    (runs_stps (q' := (23, [.ref 27, .int x1, .int x2, .int x3], [.int x3], w)) 1 rfl).trans <|
    (runs_callS (rv := some (.int r1)) (w' := w1) rfl rfl rfl h2).trans <|
    (runs_stps (q' := (27, [.ref 27, .int x1, .int x2, .int x3], [.int x2, .int r1], w1)) 1 rfl).trans <|
    (runs_if_t (a := 30) (b := 42) (L := [.ref 27, .int x1, .int x2, .int x3]) (st := []) (w := w1) rfl h3).trans <|
    (runs_stps (q' := (33, [.ref 27, .int x1, .int x2, .int x3], [.int 0, .int x3, .ref 27], w1)) 3 rfl).trans <|
    (runs_callV (rv := some (.int r2)) (w' := w2) rfl rfl rfl rfl h4).trans <|
    (runs_stps (q' := (37, [.ref 27, .int x1, .int x2, .int x3], [.int x1, .int r2], w2)) 1 rfl).trans <|
    (runs_if_t (a := 40) (b := 42) (L := [.ref 27, .int x1, .int x2, .int x3]) (st := []) (w := w2) rfl h5).trans <|
    (runs_stps (q' := (41, [.ref 27, .int x1, .int x2, .int x3], [.int x3], w2)) 1 rfl).trans <|
    runs_ret rfl
theorem p_X5_worksOnBase_0_L8 {ex : Ex} {p : Nat} {x1 : Int32} {x2 : Int32} {w : Wd} (hp : scp p) : runs (T_X5_worksOnBase ex) (0, [.ref p, .int x1, .int x2, .null, .null, .null], [], w) = runs (T_X5_worksOnBase ex) (8, [.ref p, .int x1, .int x2, .int 0, .int 0, .int 0], [], w) := by
  rcases hp with rfl | rfl
  · exact (runs_stps (q' := (8, [.ref 20, .int x1, .int x2, .int 0, .int 0, .int 0], [], w)) 6 rfl).trans <|
    rfl
  · exact (runs_stps (q' := (8, [.ref 27, .int x1, .int x2, .int 0, .int 0, .int 0], [], w)) 6 rfl).trans <|
    rfl
theorem p_X5_worksOnBase_8TTT_R {ex : Ex} {p : Nat} {x1 : Int32} {x2 : Int32} {x3 : Int32} {x4 : Int32} {x5 : Int32} {r1 : Int32} {w1 : Wd} {w : Wd} (hp : scp p) (h1 : (w.1 p 6) ≤ x5) (h2 : x4 ≤ 1) (h3 : ¬ x4 = 1) (h4 : ex 75 [.ref p, .int x2] w = some (some (.int r1), w1)) : runs (T_X5_worksOnBase ex) (8, [.ref p, .int x1, .int x2, .int x3, .int x4, .int x5], [], w) = some (some (.int (x3 ||| r1)), w1) := by
  rcases hp with rfl | rfl
  · exact (runs_stps (q' := (14, [.ref 20, .int x1, .int x2, .int x3, .int x4, .int x5], [.int (w.1 20 6), .int x5], w)) 3 rfl).trans <|
    (runs_if_t (a := 63) (b := 17) (L := [.ref 20, .int x1, .int x2, .int x3, .int x4, .int x5]) (st := []) (w := w) rfl h1).trans <|
    (runs_stps (q' := (66, [.ref 20, .null, .int x2, .int x3, .int x4, .null], [.int 1, .int x4], w)) 2 rfl).trans <|
    (runs_if_t (a := 71) (b := 69) (L := [.ref 20, .null, .int x2, .int x3, .int x4, .null]) (st := []) (w := w) rfl h2).trans <|
    (runs_stps (q' := (74, [.ref 20, .null, .int x2, .int x3, .int x4, .null], [.int 1, .int x4], w)) 2 rfl).trans <|
    (runs_if_f (a := 77) (b := 81) (L := [.ref 20, .null, .int x2, .int x3, .int x4, .null]) (st := []) (w := w) rfl h3).trans <|
    (runs_stps (q' := (84, [.ref 20, .null, .int x2, .int x3, .null, .null], [.int x2, .ref 20, .int x3], w)) 3 rfl).trans <|
    (runs_callV (rv := some (.int r1)) (w' := w1) rfl rfl rfl rfl h4).trans <|
    (runs_stps (q' := (88, [.ref 20, .null, .int x2, .int x3, .null, .null], [.int (x3 ||| r1)], w1)) 1 rfl).trans <|
    runs_ret rfl
  · exact (runs_stps (q' := (14, [.ref 27, .int x1, .int x2, .int x3, .int x4, .int x5], [.int (w.1 27 6), .int x5], w)) 3 rfl).trans <|
    (runs_if_t (a := 63) (b := 17) (L := [.ref 27, .int x1, .int x2, .int x3, .int x4, .int x5]) (st := []) (w := w) rfl h1).trans <|
    (runs_stps (q' := (66, [.ref 27, .null, .int x2, .int x3, .int x4, .null], [.int 1, .int x4], w)) 2 rfl).trans <|
    (runs_if_t (a := 71) (b := 69) (L := [.ref 27, .null, .int x2, .int x3, .int x4, .null]) (st := []) (w := w) rfl h2).trans <|
    (runs_stps (q' := (74, [.ref 27, .null, .int x2, .int x3, .int x4, .null], [.int 1, .int x4], w)) 2 rfl).trans <|
    (runs_if_f (a := 77) (b := 81) (L := [.ref 27, .null, .int x2, .int x3, .int x4, .null]) (st := []) (w := w) rfl h3).trans <|
    (runs_stps (q' := (84, [.ref 27, .null, .int x2, .int x3, .null, .null], [.int x2, .ref 27, .int x3], w)) 3 rfl).trans <|
    (runs_callV (rv := some (.int r1)) (w' := w1) rfl rfl rfl rfl h4).trans <|
    (runs_stps (q' := (88, [.ref 27, .null, .int x2, .int x3, .null, .null], [.int (x3 ||| r1)], w1)) 1 rfl).trans <|
    runs_ret rfl
theorem p_X5_worksOnBase_8TTF_R {ex : Ex} {p : Nat} {x1 : Int32} {x2 : Int32} {x3 : Int32} {x4 : Int32} {x5 : Int32} {w : Wd} (hp : scp p) (h1 : (w.1 p 6) ≤ x5) (h2 : x4 ≤ 1) (h3 : x4 = 1) : runs (T_X5_worksOnBase ex) (8, [.ref p, .int x1, .int x2, .int x3, .int x4, .int x5], [], w) = some (some (.int x3), w) := by
  rcases hp with rfl | rfl
  · exact (runs_stps (q' := (14, [.ref 20, .int x1, .int x2, .int x3, .int x4, .int x5], [.int (w.1 20 6), .int x5], w)) 3 rfl).trans <|
    (runs_if_t (a := 63) (b := 17) (L := [.ref 20, .int x1, .int x2, .int x3, .int x4, .int x5]) (st := []) (w := w) rfl h1).trans <|
    (runs_stps (q' := (66, [.ref 20, .null, .int x2, .int x3, .int x4, .null], [.int 1, .int x4], w)) 2 rfl).trans <|
    (runs_if_t (a := 71) (b := 69) (L := [.ref 20, .null, .int x2, .int x3, .int x4, .null]) (st := []) (w := w) rfl h2).trans <|
    (runs_stps (q' := (74, [.ref 20, .null, .int x2, .int x3, .int x4, .null], [.int 1, .int x4], w)) 2 rfl).trans <|
    (runs_if_t (a := 77) (b := 81) (L := [.ref 20, .null, .int x2, .int x3, .int x4, .null]) (st := []) (w := w) rfl h3).trans <|
    (runs_stps (q' := (88, [.ref 20, .null, .int x2, .int x3, .int x4, .null], [.int x3], w)) 2 rfl).trans <|
    runs_ret rfl
  · exact (runs_stps (q' := (14, [.ref 27, .int x1, .int x2, .int x3, .int x4, .int x5], [.int (w.1 27 6), .int x5], w)) 3 rfl).trans <|
    (runs_if_t (a := 63) (b := 17) (L := [.ref 27, .int x1, .int x2, .int x3, .int x4, .int x5]) (st := []) (w := w) rfl h1).trans <|
    (runs_stps (q' := (66, [.ref 27, .null, .int x2, .int x3, .int x4, .null], [.int 1, .int x4], w)) 2 rfl).trans <|
    (runs_if_t (a := 71) (b := 69) (L := [.ref 27, .null, .int x2, .int x3, .int x4, .null]) (st := []) (w := w) rfl h2).trans <|
    (runs_stps (q' := (74, [.ref 27, .null, .int x2, .int x3, .int x4, .null], [.int 1, .int x4], w)) 2 rfl).trans <|
    (runs_if_t (a := 77) (b := 81) (L := [.ref 27, .null, .int x2, .int x3, .int x4, .null]) (st := []) (w := w) rfl h3).trans <|
    (runs_stps (q' := (88, [.ref 27, .null, .int x2, .int x3, .int x4, .null], [.int x3], w)) 2 rfl).trans <|
    runs_ret rfl
theorem p_X5_worksOnBase_8TF_R {ex : Ex} {p : Nat} {x1 : Int32} {x2 : Int32} {x3 : Int32} {x4 : Int32} {x5 : Int32} {w : Wd} (hp : scp p) (h1 : (w.1 p 6) ≤ x5) (h2 : ¬ x4 ≤ 1) : runs (T_X5_worksOnBase ex) (8, [.ref p, .int x1, .int x2, .int x3, .int x4, .int x5], [], w) = some (some (.int (-1)), w) := by
  rcases hp with rfl | rfl
  · exact (runs_stps (q' := (14, [.ref 20, .int x1, .int x2, .int x3, .int x4, .int x5], [.int (w.1 20 6), .int x5], w)) 3 rfl).trans <|
    (runs_if_t (a := 63) (b := 17) (L := [.ref 20, .int x1, .int x2, .int x3, .int x4, .int x5]) (st := []) (w := w) rfl h1).trans <|
    (runs_stps (q' := (66, [.ref 20, .null, .int x2, .int x3, .int x4, .null], [.int 1, .int x4], w)) 2 rfl).trans <|
    (runs_if_f (a := 71) (b := 69) (L := [.ref 20, .null, .int x2, .int x3, .int x4, .null]) (st := []) (w := w) rfl h2).trans <|
    (runs_stps (q' := (70, [.ref 20, .null, .int x2, .int x3, .int x4, .null], [.int (-1)], w)) 1 rfl).trans <|
    runs_ret rfl
  · exact (runs_stps (q' := (14, [.ref 27, .int x1, .int x2, .int x3, .int x4, .int x5], [.int (w.1 27 6), .int x5], w)) 3 rfl).trans <|
    (runs_if_t (a := 63) (b := 17) (L := [.ref 27, .int x1, .int x2, .int x3, .int x4, .int x5]) (st := []) (w := w) rfl h1).trans <|
    (runs_stps (q' := (66, [.ref 27, .null, .int x2, .int x3, .int x4, .null], [.int 1, .int x4], w)) 2 rfl).trans <|
    (runs_if_f (a := 71) (b := 69) (L := [.ref 27, .null, .int x2, .int x3, .int x4, .null]) (st := []) (w := w) rfl h2).trans <|
    (runs_stps (q' := (70, [.ref 27, .null, .int x2, .int x3, .int x4, .null], [.int (-1)], w)) 1 rfl).trans <|
    runs_ret rfl
theorem p_X5_worksOnBase_8FT_L8 {ex : Ex} {p : Nat} {x1 : Int32} {x2 : Int32} {x3 : Int32} {x4 : Int32} {x5 : Int32} {w : Wd} (hp : scp p) (h1 : ¬ (w.1 p 6) ≤ x5) (h2 : ¬ ((x1 >>> (x5 &&& 31)) &&& 1) = 1) : runs (T_X5_worksOnBase ex) (8, [.ref p, .int x1, .int x2, .int x3, .int x4, .int x5], [], w) = runs (T_X5_worksOnBase ex) (8, [.ref p, .int x1, .int x2, .int x3, .int x4, .int (x5 + 1)], [], w) := by
  rcases hp with rfl | rfl
  · exact (runs_stps (q' := (14, [.ref 20, .int x1, .int x2, .int x3, .int x4, .int x5], [.int (w.1 20 6), .int x5], w)) 3 rfl).trans <|
    (runs_if_f (a := 63) (b := 17) (L := [.ref 20, .int x1, .int x2, .int x3, .int x4, .int x5]) (st := []) (w := w) rfl h1).trans <|
    (runs_stps (q' := (24, [.ref 20, .int x1, .int x2, .int x3, .int x4, .int x5], [.int 1, .int ((x1 >>> (x5 &&& 31)) &&& 1)], w)) 6 rfl).trans <|
    (runs_if_f (a := 27) (b := 57) (L := [.ref 20, .int x1, .int x2, .int x3, .int x4, .int x5]) (st := []) (w := w) rfl h2).trans <|
    (runs_stps (q' := (8, [.ref 20, .int x1, .int x2, .int x3, .int x4, .int (x5 + 1)], [], w)) 2 rfl).trans <|
    rfl
  · exact (runs_stps (q' := (14, [.ref 27, .int x1, .int x2, .int x3, .int x4, .int x5], [.int (w.1 27 6), .int x5], w)) 3 rfl).trans <|
    (runs_if_f (a := 63) (b := 17) (L := [.ref 27, .int x1, .int x2, .int x3, .int x4, .int x5]) (st := []) (w := w) rfl h1).trans <|
    (runs_stps (q' := (24, [.ref 27, .int x1, .int x2, .int x3, .int x4, .int x5], [.int 1, .int ((x1 >>> (x5 &&& 31)) &&& 1)], w)) 6 rfl).trans <|
    (runs_if_f (a := 27) (b := 57) (L := [.ref 27, .int x1, .int x2, .int x3, .int x4, .int x5]) (st := []) (w := w) rfl h2).trans <|
    (runs_stps (q' := (8, [.ref 27, .int x1, .int x2, .int x3, .int x4, .int (x5 + 1)], [], w)) 2 rfl).trans <|
    rfl
theorem p_X5_worksOnBase_8FFT_L8 {ex : Ex} {p : Nat} {x1 : Int32} {x2 : Int32} {x3 : Int32} {x4 : Int32} {x5 : Int32} {r1 : Int32} {w1 : Wd} {r2 : Int32} {w2 : Wd} {w : Wd} (hp : scp p) (h1 : ¬ (w.1 p 6) ≤ x5) (h2 : ((x1 >>> (x5 &&& 31)) &&& 1) = 1) (h3 : ex 63 [.ref p, .int x5] w = some (some (.int r1), w1)) (h4 : ex 64 [.ref p, .int x5] w1 = some (some (.int r2), w2)) (h5 : r2 = 0) : runs (T_X5_worksOnBase ex) (8, [.ref p, .int x1, .int x2, .int x3, .int x4, .int x5], [], w) = runs (T_X5_worksOnBase ex) (8, [.ref p, .int x1, .int x2, .int (x3 ||| (1 <<< (r1 &&& 31))), .int (x4 + 1), .int (x5 + 1)], [], w2) := by
  rcases hp with rfl | rfl
  · exact (runs_stps (q' := (14, [.ref 20, .int x1, .int x2, .int x3, .int x4, .int x5], [.int (w.1 20 6), .int x5], w)) 3 rfl).trans <|
    (runs_if_f (a := 63) (b := 17) (L := [.ref 20, .int x1, .int x2, .int x3, .int x4, .int x5]) (st := []) (w := w) rfl h1).trans <|
    (runs_stps (q' := (24, [.ref 20, .int x1, .int x2, .int x3, .int x4, .int x5], [.int 1, .int ((x1 >>> (x5 &&& 31)) &&& 1)], w)) 6 rfl).trans <|
    (runs_if_t (a := 27) (b := 57) (L := [.ref 20, .int x1, .int x2, .int x3, .int x4, .int x5]) (st := []) (w := w) rfl h2).trans <|
    (runs_stps (q' := (32, [.ref 20, .int x1, .int x2, .int x3, .int x4, .int x5], [.int x5, .ref 20, .int 1, .int x3], w)) 4 rfl).trans <|
    (runs_callV (rv := some (.int r1)) (w' := w1) rfl rfl rfl rfl h3).trans <|
    (runs_stps (q' := (43, [.ref 20, .int x1, .int x2, .int (x3 ||| (1 <<< (r1 &&& 31))), .int x4, .int x5], [.int x5, .ref 20, .int x4], w1)) 6 rfl).trans <|
    (runs_callV (rv := some (.int r2)) (w' := w2) rfl rfl rfl rfl h4).trans <|
    (runs_if_t (a := 53) (b := 49) (L := [.ref 20, .int x1, .int x2, .int (x3 ||| (1 <<< (r1 &&& 31))), .int x4, .int x5]) (st := [.int x4]) (w := w2) rfl h5).trans <|
    (runs_stps (q' := (8, [.ref 20, .int x1, .int x2, .int (x3 ||| (1 <<< (r1 &&& 31))), .int (x4 + 1), .int (x5 + 1)], [], w2)) 5 rfl).trans <|
    rfl
  · exact (runs_stps (q' := (14, [.ref 27, .int x1, .int x2, .int x3, .int x4, .int x5], [.int (w.1 27 6), .int x5], w)) 3 rfl).trans <|
    (runs_if_f (a := 63) (b := 17) (L := [.ref 27, .int x1, .int x2, .int x3, .int x4, .int x5]) (st := []) (w := w) rfl h1).trans <|
    (runs_stps (q' := (24, [.ref 27, .int x1, .int x2, .int x3, .int x4, .int x5], [.int 1, .int ((x1 >>> (x5 &&& 31)) &&& 1)], w)) 6 rfl).trans <|
    (runs_if_t (a := 27) (b := 57) (L := [.ref 27, .int x1, .int x2, .int x3, .int x4, .int x5]) (st := []) (w := w) rfl h2).trans <|
    (runs_stps (q' := (32, [.ref 27, .int x1, .int x2, .int x3, .int x4, .int x5], [.int x5, .ref 27, .int 1, .int x3], w)) 4 rfl).trans <|
    (runs_callV (rv := some (.int r1)) (w' := w1) rfl rfl rfl rfl h3).trans <|
    (runs_stps (q' := (43, [.ref 27, .int x1, .int x2, .int (x3 ||| (1 <<< (r1 &&& 31))), .int x4, .int x5], [.int x5, .ref 27, .int x4], w1)) 6 rfl).trans <|
    (runs_callV (rv := some (.int r2)) (w' := w2) rfl rfl rfl rfl h4).trans <|
    (runs_if_t (a := 53) (b := 49) (L := [.ref 27, .int x1, .int x2, .int (x3 ||| (1 <<< (r1 &&& 31))), .int x4, .int x5]) (st := [.int x4]) (w := w2) rfl h5).trans <|
    (runs_stps (q' := (8, [.ref 27, .int x1, .int x2, .int (x3 ||| (1 <<< (r1 &&& 31))), .int (x4 + 1), .int (x5 + 1)], [], w2)) 5 rfl).trans <|
    rfl
theorem p_X5_worksOnBase_8FFF_L8 {ex : Ex} {p : Nat} {x1 : Int32} {x2 : Int32} {x3 : Int32} {x4 : Int32} {x5 : Int32} {r1 : Int32} {w1 : Wd} {r2 : Int32} {w2 : Wd} {w : Wd} (hp : scp p) (h1 : ¬ (w.1 p 6) ≤ x5) (h2 : ((x1 >>> (x5 &&& 31)) &&& 1) = 1) (h3 : ex 63 [.ref p, .int x5] w = some (some (.int r1), w1)) (h4 : ex 64 [.ref p, .int x5] w1 = some (some (.int r2), w2)) (h5 : ¬ r2 = 0) : runs (T_X5_worksOnBase ex) (8, [.ref p, .int x1, .int x2, .int x3, .int x4, .int x5], [], w) = runs (T_X5_worksOnBase ex) (8, [.ref p, .int x1, .int x2, .int (x3 ||| (1 <<< (r1 &&& 31))), .int (x4 + 0), .int (x5 + 1)], [], w2) := by
  rcases hp with rfl | rfl
  · exact (runs_stps (q' := (14, [.ref 20, .int x1, .int x2, .int x3, .int x4, .int x5], [.int (w.1 20 6), .int x5], w)) 3 rfl).trans <|
    (runs_if_f (a := 63) (b := 17) (L := [.ref 20, .int x1, .int x2, .int x3, .int x4, .int x5]) (st := []) (w := w) rfl h1).trans <|
    (runs_stps (q' := (24, [.ref 20, .int x1, .int x2, .int x3, .int x4, .int x5], [.int 1, .int ((x1 >>> (x5 &&& 31)) &&& 1)], w)) 6 rfl).trans <|
    (runs_if_t (a := 27) (b := 57) (L := [.ref 20, .int x1, .int x2, .int x3, .int x4, .int x5]) (st := []) (w := w) rfl h2).trans <|
    (runs_stps (q' := (32, [.ref 20, .int x1, .int x2, .int x3, .int x4, .int x5], [.int x5, .ref 20, .int 1, .int x3], w)) 4 rfl).trans <|
    (runs_callV (rv := some (.int r1)) (w' := w1) rfl rfl rfl rfl h3).trans <|
    (runs_stps (q' := (43, [.ref 20, .int x1, .int x2, .int (x3 ||| (1 <<< (r1 &&& 31))), .int x4, .int x5], [.int x5, .ref 20, .int x4], w1)) 6 rfl).trans <|
    (runs_callV (rv := some (.int r2)) (w' := w2) rfl rfl rfl rfl h4).trans <|
    (runs_if_f (a := 53) (b := 49) (L := [.ref 20, .int x1, .int x2, .int (x3 ||| (1 <<< (r1 &&& 31))), .int x4, .int x5]) (st := [.int x4]) (w := w2) rfl h5).trans <|
    (runs_stps (q' := (8, [.ref 20, .int x1, .int x2, .int (x3 ||| (1 <<< (r1 &&& 31))), .int (x4 + 0), .int (x5 + 1)], [], w2)) 6 rfl).trans <|
    rfl
  · exact (runs_stps (q' := (14, [.ref 27, .int x1, .int x2, .int x3, .int x4, .int x5], [.int (w.1 27 6), .int x5], w)) 3 rfl).trans <|
    (runs_if_f (a := 63) (b := 17) (L := [.ref 27, .int x1, .int x2, .int x3, .int x4, .int x5]) (st := []) (w := w) rfl h1).trans <|
    (runs_stps (q' := (24, [.ref 27, .int x1, .int x2, .int x3, .int x4, .int x5], [.int 1, .int ((x1 >>> (x5 &&& 31)) &&& 1)], w)) 6 rfl).trans <|
    (runs_if_t (a := 27) (b := 57) (L := [.ref 27, .int x1, .int x2, .int x3, .int x4, .int x5]) (st := []) (w := w) rfl h2).trans <|
    (runs_stps (q' := (32, [.ref 27, .int x1, .int x2, .int x3, .int x4, .int x5], [.int x5, .ref 27, .int 1, .int x3], w)) 4 rfl).trans <|
    (runs_callV (rv := some (.int r1)) (w' := w1) rfl rfl rfl rfl h3).trans <|
    (runs_stps (q' := (43, [.ref 27, .int x1, .int x2, .int (x3 ||| (1 <<< (r1 &&& 31))), .int x4, .int x5], [.int x5, .ref 27, .int x4], w1)) 6 rfl).trans <|
    (runs_callV (rv := some (.int r2)) (w' := w2) rfl rfl rfl rfl h4).trans <|
    (runs_if_f (a := 53) (b := 49) (L := [.ref 27, .int x1, .int x2, .int (x3 ||| (1 <<< (r1 &&& 31))), .int x4, .int x5]) (st := [.int x4]) (w := w2) rfl h5).trans <|
    (runs_stps (q' := (8, [.ref 27, .int x1, .int x2, .int (x3 ||| (1 <<< (r1 &&& 31))), .int (x4 + 0), .int (x5 + 1)], [], w2)) 6 rfl).trans <|
    rfl
theorem p_X6_costOf_0_R {ex : Ex} {x0 : Int32} {w : Wd} : runs (T_X6_costOf ex) (0, [.int x0], [], w) = some (some (.int (x0 / 65536)), w) := 
    (runs_stps (q' := (4, [.int x0], [.int (x0 / 65536)], w)) 3 rfl).trans <|
    runs_ret rfl
theorem p_X6_firstOf_0T_R {ex : Ex} {x0 : Int32} {w : Wd} (h1 : 8 ≤ (x0 - x0 / 65536 * 65536)) : runs (T_X6_firstOf ex) (0, [.int x0], [], w) = some (some (.int (x0 - x0 / 8 * 8)), w) := 
    (runs_stps (q' := (6, [.int x0], [.int 8, .int (x0 - x0 / 65536 * 65536)], w)) 4 rfl).trans <|
    (runs_if_t (a := 14) (b := 9) (L := [.int x0]) (st := []) (w := w) rfl h1).trans <|
    (runs_stps (q' := (18, [.int x0], [.int (x0 - x0 / 8 * 8)], w)) 3 rfl).trans <|
    runs_ret rfl
theorem p_X6_firstOf_0F_R {ex : Ex} {x0 : Int32} {w : Wd} (h1 : ¬ 8 ≤ (x0 - x0 / 65536 * 65536)) : runs (T_X6_firstOf ex) (0, [.int x0], [], w) = some (some (.int (-5)), w) := 
    (runs_stps (q' := (6, [.int x0], [.int 8, .int (x0 - x0 / 65536 * 65536)], w)) 4 rfl).trans <|
    (runs_if_f (a := 14) (b := 9) (L := [.int x0]) (st := []) (w := w) rfl h1).trans <|
    (runs_stps (q' := (18, [.int x0], [.int (-5)], w)) 2 rfl).trans <|
    runs_ret rfl
theorem p_X6_nearest_0_L23 {ex : Ex} {p : Nat} {x2 : Int32} {x3 : Int32} {x4 : Int32} {w1 : Wd} {w2 : Wd} {w : Wd} (hp : scp p) (h1 : ex 205 [.ref 12, .int 1073741824] w = some (none, w1)) (h2 : ex 85 [.ref 11, .int x2, .int 0] (updI w1 11 3 0) = some (none, w2)) : runs (T_X6_nearest ex) (0, [.ref 11, .ref p, .int x2, .int x3, .int x4, .null, .null], [], w) = runs (T_X6_nearest ex) (23, [.ref 11, .ref p, .int x2, .int x3, .int x4, .int 0, .null], [], w2) := by
  rcases hp with rfl | rfl
  · exact (runs_stps (q' := (6, [.ref 11, .ref 20, .int x2, .int x3, .int x4, .null, .null], [.int 1073741824, .ref 12], w)) 3 rfl).trans <|
    (runs_callS (rv := none) (w' := w1) rfl rfl rfl h1).trans <|
    (runs_stps (q' := (17, [.ref 11, .ref 20, .int x2, .int x3, .int x4, .null, .null], [.int 0, .int x2, .ref 11], updI w1 11 3 0)) 6 rfl).trans <|
    (runs_callV (rv := none) (w' := w2) rfl rfl rfl rfl h2).trans <|
    (runs_stps (q' := (23, [.ref 11, .ref 20, .int x2, .int x3, .int x4, .int 0, .null], [], w2)) 2 rfl).trans <|
    rfl
  · exact (runs_stps (q' := (6, [.ref 11, .ref 27, .int x2, .int x3, .int x4, .null, .null], [.int 1073741824, .ref 12], w)) 3 rfl).trans <|
    (runs_callS (rv := none) (w' := w1) rfl rfl rfl h1).trans <|
    (runs_stps (q' := (17, [.ref 11, .ref 27, .int x2, .int x3, .int x4, .null, .null], [.int 0, .int x2, .ref 11], updI w1 11 3 0)) 6 rfl).trans <|
    (runs_callV (rv := none) (w' := w2) rfl rfl rfl rfl h2).trans <|
    (runs_stps (q' := (23, [.ref 11, .ref 27, .int x2, .int x3, .int x4, .int 0, .null], [], w2)) 2 rfl).trans <|
    rfl
theorem p_X6_nearest_23T_R {ex : Ex} {p : Nat} {v2 : Value} {x3 : Int32} {x4 : Int32} {x5 : Int32} {v6 : Value} {w : Wd} (hp : scp p) (h1 : 3906 ≤ x5) : runs (T_X6_nearest ex) (23, [.ref 11, .ref p, v2, .int x3, .int x4, .int x5, v6], [], w) = some (some (.int 1073741824), w) := by
  rcases hp with rfl | rfl
  · exact (runs_stps (q' := (28, [.ref 11, .ref 20, .null, .int x3, .int x4, .int x5, .null], [.int 3906, .int x5], w)) 2 rfl).trans <|
    (runs_if_t (a := 79) (b := 31) (L := [.ref 11, .ref 20, .null, .int x3, .int x4, .int x5, .null]) (st := []) (w := w) rfl h1).trans <|
    (runs_stps (q' := (81, [.null, .null, .null, .null, .null, .null, .null], [.int 1073741824], w)) 1 rfl).trans <|
    runs_ret rfl
  · exact (runs_stps (q' := (28, [.ref 11, .ref 27, .null, .int x3, .int x4, .int x5, .null], [.int 3906, .int x5], w)) 2 rfl).trans <|
    (runs_if_t (a := 79) (b := 31) (L := [.ref 11, .ref 27, .null, .int x3, .int x4, .int x5, .null]) (st := []) (w := w) rfl h1).trans <|
    (runs_stps (q' := (81, [.null, .null, .null, .null, .null, .null, .null], [.int 1073741824], w)) 1 rfl).trans <|
    runs_ret rfl
theorem p_X6_nearest_23FT_R {ex : Ex} {p : Nat} {v2 : Value} {x3 : Int32} {x4 : Int32} {x5 : Int32} {v6 : Value} {w : Wd} (hp : scp p) (h1 : ¬ 3906 ≤ x5) (h2 : (w.1 11 3) ≤ 0) : runs (T_X6_nearest ex) (23, [.ref 11, .ref p, v2, .int x3, .int x4, .int x5, v6], [], w) = some (some (.int 1073741824), w) := by
  rcases hp with rfl | rfl
  · exact (runs_stps (q' := (28, [.ref 11, .ref 20, .null, .int x3, .int x4, .int x5, .null], [.int 3906, .int x5], w)) 2 rfl).trans <|
    (runs_if_f (a := 79) (b := 31) (L := [.ref 11, .ref 20, .null, .int x3, .int x4, .int x5, .null]) (st := []) (w := w) rfl h1).trans <|
    (runs_stps (q' := (35, [.ref 11, .ref 20, .null, .int x3, .int x4, .int x5, .null], [.int (w.1 11 3)], w)) 2 rfl).trans <|
    (runs_if_t (a := 79) (b := 38) (L := [.ref 11, .ref 20, .null, .int x3, .int x4, .int x5, .null]) (st := []) (w := w) rfl h2).trans <|
    (runs_stps (q' := (81, [.null, .null, .null, .null, .null, .null, .null], [.int 1073741824], w)) 1 rfl).trans <|
    runs_ret rfl
  · exact (runs_stps (q' := (28, [.ref 11, .ref 27, .null, .int x3, .int x4, .int x5, .null], [.int 3906, .int x5], w)) 2 rfl).trans <|
    (runs_if_f (a := 79) (b := 31) (L := [.ref 11, .ref 27, .null, .int x3, .int x4, .int x5, .null]) (st := []) (w := w) rfl h1).trans <|
    (runs_stps (q' := (35, [.ref 11, .ref 27, .null, .int x3, .int x4, .int x5, .null], [.int (w.1 11 3)], w)) 2 rfl).trans <|
    (runs_if_t (a := 79) (b := 38) (L := [.ref 11, .ref 27, .null, .int x3, .int x4, .int x5, .null]) (st := []) (w := w) rfl h2).trans <|
    (runs_stps (q' := (81, [.null, .null, .null, .null, .null, .null, .null], [.int 1073741824], w)) 1 rfl).trans <|
    runs_ret rfl
theorem p_X6_nearest_23FFT_L23 {ex : Ex} {p : Nat} {v2 : Value} {x3 : Int32} {x4 : Int32} {x5 : Int32} {v6 : Value} {r1 : Int32} {w1 : Wd} {r2 : Int32} {w2 : Wd} {w3 : Wd} {w : Wd} (hp : scp p) (h1 : ¬ 3906 ≤ x5) (h2 : ¬ (w.1 11 3) ≤ 0) (h3 : ex 86 [.ref 11] w = some (some (.int r1), w1)) (h4 : ex 75 [.ref p, .int r1] w1 = some (some (.int r2), w2)) (h5 : ¬ r2 = x3) (h6 : ex 84 [.ref 11, .ref p, .int r1, .int x4] w2 = some (none, w3)) : runs (T_X6_nearest ex) (23, [.ref 11, .ref p, v2, .int x3, .int x4, .int x5, v6], [], w) = runs (T_X6_nearest ex) (23, [.ref 11, .ref p, .null, .int x3, .int x4, .int (x5 + 1), .int r1], [], w3) := by
  rcases hp with rfl | rfl
  · exact (runs_stps (q' := (28, [.ref 11, .ref 20, .null, .int x3, .int x4, .int x5, .null], [.int 3906, .int x5], w)) 2 rfl).trans <|
    (runs_if_f (a := 79) (b := 31) (L := [.ref 11, .ref 20, .null, .int x3, .int x4, .int x5, .null]) (st := []) (w := w) rfl h1).trans <|
    (runs_stps (q' := (35, [.ref 11, .ref 20, .null, .int x3, .int x4, .int x5, .null], [.int (w.1 11 3)], w)) 2 rfl).trans <|
    (runs_if_f (a := 79) (b := 38) (L := [.ref 11, .ref 20, .null, .int x3, .int x4, .int x5, .null]) (st := []) (w := w) rfl h2).trans <|
    (runs_stps (q' := (39, [.ref 11, .ref 20, .null, .int x3, .int x4, .int x5, .null], [.ref 11], w)) 1 rfl).trans <|
    (runs_callV (rv := some (.int r1)) (w' := w1) rfl rfl rfl rfl h3).trans <|
    (runs_stps (q' := (47, [.ref 11, .ref 20, .null, .int x3, .int x4, .int x5, .int r1], [.int r1, .ref 20], w1)) 3 rfl).trans <|
    (runs_callV (rv := some (.int r2)) (w' := w2) rfl rfl rfl rfl h4).trans <|
    (runs_stps (q' := (51, [.ref 11, .ref 20, .null, .int x3, .int x4, .int x5, .int r1], [.int x3, .int r2], w2)) 1 rfl).trans <|
    (runs_if_f (a := 54) (b := 64) (L := [.ref 11, .ref 20, .null, .int x3, .int x4, .int x5, .int r1]) (st := []) (w := w2) rfl h5).trans <|
    (runs_stps (q' := (70, [.ref 11, .ref 20, .null, .int x3, .int x4, .int x5, .int r1], [.int x4, .int r1, .ref 20, .ref 11], w2)) 4 rfl).trans <|
    (runs_callV (rv := none) (w' := w3) rfl rfl rfl rfl h6).trans <|
    (runs_stps (q' := (23, [.ref 11, .ref 20, .null, .int x3, .int x4, .int (x5 + 1), .int r1], [], w3)) 2 rfl).trans <|
    rfl
  · exact (runs_stps (q' := (28, [.ref 11, .ref 27, .null, .int x3, .int x4, .int x5, .null], [.int 3906, .int x5], w)) 2 rfl).trans <|
    (runs_if_f (a := 79) (b := 31) (L := [.ref 11, .ref 27, .null, .int x3, .int x4, .int x5, .null]) (st := []) (w := w) rfl h1).trans <|
    (runs_stps (q' := (35, [.ref 11, .ref 27, .null, .int x3, .int x4, .int x5, .null], [.int (w.1 11 3)], w)) 2 rfl).trans <|
    (runs_if_f (a := 79) (b := 38) (L := [.ref 11, .ref 27, .null, .int x3, .int x4, .int x5, .null]) (st := []) (w := w) rfl h2).trans <|
    (runs_stps (q' := (39, [.ref 11, .ref 27, .null, .int x3, .int x4, .int x5, .null], [.ref 11], w)) 1 rfl).trans <|
    (runs_callV (rv := some (.int r1)) (w' := w1) rfl rfl rfl rfl h3).trans <|
    (runs_stps (q' := (47, [.ref 11, .ref 27, .null, .int x3, .int x4, .int x5, .int r1], [.int r1, .ref 27], w1)) 3 rfl).trans <|
    (runs_callV (rv := some (.int r2)) (w' := w2) rfl rfl rfl rfl h4).trans <|
    (runs_stps (q' := (51, [.ref 11, .ref 27, .null, .int x3, .int x4, .int x5, .int r1], [.int x3, .int r2], w2)) 1 rfl).trans <|
    (runs_if_f (a := 54) (b := 64) (L := [.ref 11, .ref 27, .null, .int x3, .int x4, .int x5, .int r1]) (st := []) (w := w2) rfl h5).trans <|
    (runs_stps (q' := (70, [.ref 11, .ref 27, .null, .int x3, .int x4, .int x5, .int r1], [.int x4, .int r1, .ref 27, .ref 11], w2)) 4 rfl).trans <|
    (runs_callV (rv := none) (w' := w3) rfl rfl rfl rfl h6).trans <|
    (runs_stps (q' := (23, [.ref 11, .ref 27, .null, .int x3, .int x4, .int (x5 + 1), .int r1], [], w3)) 2 rfl).trans <|
    rfl
theorem p_X6_nearest_23FFF_R {ex : Ex} {p : Nat} {v2 : Value} {x3 : Int32} {x4 : Int32} {x5 : Int32} {v6 : Value} {r1 : Int32} {w1 : Wd} {r2 : Int32} {w2 : Wd} {r3 : Int32} {w3 : Wd} {w : Wd} (hp : scp p) (h1 : ¬ 3906 ≤ x5) (h2 : ¬ (w.1 11 3) ≤ 0) (h3 : ex 86 [.ref 11] w = some (some (.int r1), w1)) (h4 : ex 75 [.ref p, .int r1] w1 = some (some (.int r2), w2)) (h5 : r2 = x3) (h6 : ex 133 [.ref 12, .int r1] w2 = some (some (.int r3), w3)) : runs (T_X6_nearest ex) (23, [.ref 11, .ref p, v2, .int x3, .int x4, .int x5, v6], [], w) = some (some (.int r3), w3) := by
  rcases hp with rfl | rfl
  · exact (runs_stps (q' := (28, [.ref 11, .ref 20, .null, .int x3, .int x4, .int x5, .null], [.int 3906, .int x5], w)) 2 rfl).trans <|
    (runs_if_f (a := 79) (b := 31) (L := [.ref 11, .ref 20, .null, .int x3, .int x4, .int x5, .null]) (st := []) (w := w) rfl h1).trans <|
    (runs_stps (q' := (35, [.ref 11, .ref 20, .null, .int x3, .int x4, .int x5, .null], [.int (w.1 11 3)], w)) 2 rfl).trans <|
    (runs_if_f (a := 79) (b := 38) (L := [.ref 11, .ref 20, .null, .int x3, .int x4, .int x5, .null]) (st := []) (w := w) rfl h2).trans <|
    (runs_stps (q' := (39, [.ref 11, .ref 20, .null, .int x3, .int x4, .int x5, .null], [.ref 11], w)) 1 rfl).trans <|
    (runs_callV (rv := some (.int r1)) (w' := w1) rfl rfl rfl rfl h3).trans <|
    (runs_stps (q' := (47, [.ref 11, .ref 20, .null, .int x3, .int x4, .int x5, .int r1], [.int r1, .ref 20], w1)) 3 rfl).trans <|
    (runs_callV (rv := some (.int r2)) (w' := w2) rfl rfl rfl rfl h4).trans <|
    (runs_stps (q' := (51, [.ref 11, .ref 20, .null, .int x3, .int x4, .int x5, .int r1], [.int x3, .int r2], w2)) 1 rfl).trans <|
    (runs_if_t (a := 54) (b := 64) (L := [.ref 11, .ref 20, .null, .int x3, .int x4, .int x5, .int r1]) (st := []) (w := w2) rfl h5).trans <|
    (runs_stps (q' := (60, [.ref 11, .ref 20, .null, .int x3, .int x4, .int x5, .int r1], [.int r1, .ref 12], w2)) 3 rfl).trans <|
    (runs_callS (rv := some (.int r3)) (w' := w3) rfl rfl rfl h6).trans <|
    runs_ret rfl
  · exact (runs_stps (q' := (28, [.ref 11, .ref 27, .null, .int x3, .int x4, .int x5, .null], [.int 3906, .int x5], w)) 2 rfl).trans <|
    (runs_if_f (a := 79) (b := 31) (L := [.ref 11, .ref 27, .null, .int x3, .int x4, .int x5, .null]) (st := []) (w := w) rfl h1).trans <|
    (runs_stps (q' := (35, [.ref 11, .ref 27, .null, .int x3, .int x4, .int x5, .null], [.int (w.1 11 3)], w)) 2 rfl).trans <|
    (runs_if_f (a := 79) (b := 38) (L := [.ref 11, .ref 27, .null, .int x3, .int x4, .int x5, .null]) (st := []) (w := w) rfl h2).trans <|
    (runs_stps (q' := (39, [.ref 11, .ref 27, .null, .int x3, .int x4, .int x5, .null], [.ref 11], w)) 1 rfl).trans <|
    (runs_callV (rv := some (.int r1)) (w' := w1) rfl rfl rfl rfl h3).trans <|
    (runs_stps (q' := (47, [.ref 11, .ref 27, .null, .int x3, .int x4, .int x5, .int r1], [.int r1, .ref 27], w1)) 3 rfl).trans <|
    (runs_callV (rv := some (.int r2)) (w' := w2) rfl rfl rfl rfl h4).trans <|
    (runs_stps (q' := (51, [.ref 11, .ref 27, .null, .int x3, .int x4, .int x5, .int r1], [.int x3, .int r2], w2)) 1 rfl).trans <|
    (runs_if_t (a := 54) (b := 64) (L := [.ref 11, .ref 27, .null, .int x3, .int x4, .int x5, .int r1]) (st := []) (w := w2) rfl h5).trans <|
    (runs_stps (q' := (60, [.ref 11, .ref 27, .null, .int x3, .int x4, .int x5, .int r1], [.int r1, .ref 12], w2)) 3 rfl).trans <|
    (runs_callS (rv := some (.int r3)) (w' := w3) rfl rfl rfl h6).trans <|
    runs_ret rfl
theorem p_X6_goOnFrom_0_L13 {ex : Ex} {p : Nat} {x2 : Int32} {x3 : Int32} {r1 : Int32} {w1 : Wd} {w : Wd} (hp : scp p) (h1 : ex 133 [.ref 12, .int x2] w = some (some (.int r1), w1)) : runs (T_X6_goOnFrom ex) (0, [.ref 11, .ref p, .int x2, .int x3, .null, .null, .null, .null], [], w) = runs (T_X6_goOnFrom ex) (13, [.ref 11, .ref p, .int x2, .int x3, .int r1, .int 0, .null, .null], [], w1) := by
  rcases hp with rfl | rfl
  · exact (runs_stps (q' := (5, [.ref 11, .ref 20, .int x2, .int x3, .null, .null, .null, .null], [.int x2, .ref 12], w)) 3 rfl).trans <|
    (runs_callS (rv := some (.int r1)) (w' := w1) rfl rfl rfl h1).trans <|
    (runs_stps (q' := (13, [.ref 11, .ref 20, .int x2, .int x3, .int r1, .int 0, .null, .null], [], w1)) 3 rfl).trans <|
    rfl
  · exact (runs_stps (q' := (5, [.ref 11, .ref 27, .int x2, .int x3, .null, .null, .null, .null], [.int x2, .ref 12], w)) 3 rfl).trans <|
    (runs_callS (rv := some (.int r1)) (w' := w1) rfl rfl rfl h1).trans <|
    (runs_stps (q' := (13, [.ref 11, .ref 27, .int x2, .int x3, .int r1, .int 0, .null, .null], [], w1)) 3 rfl).trans <|
    rfl
theorem p_X6_goOnFrom_13T_R {ex : Ex} {p : Nat} {x2 : Int32} {x3 : Int32} {x4 : Int32} {x5 : Int32} {v6 : Value} {v7 : Value} {w : Wd} (hp : scp p) (h1 : 6 < x5) : runs (T_X6_goOnFrom ex) (13, [.ref 11, .ref p, .int x2, .int x3, .int x4, .int x5, v6, v7], [], w) = some (none, w) := by
  rcases hp with rfl | rfl
  · exact (runs_stps (q' := (17, [.ref 11, .ref 20, .int x2, .int x3, .int x4, .int x5, .null, .null], [.int 6, .int x5], w)) 2 rfl).trans <|
    (runs_if_t (a := 79) (b := 20) (L := [.ref 11, .ref 20, .int x2, .int x3, .int x4, .int x5, .null, .null]) (st := []) (w := w) rfl h1).trans <|
    runs_ret rfl
  · exact (runs_stps (q' := (17, [.ref 11, .ref 27, .int x2, .int x3, .int x4, .int x5, .null, .null], [.int 6, .int x5], w)) 2 rfl).trans <|
    (runs_if_t (a := 79) (b := 20) (L := [.ref 11, .ref 27, .int x2, .int x3, .int x4, .int x5, .null, .null]) (st := []) (w := w) rfl h1).trans <|
    runs_ret rfl
theorem p_X6_goOnFrom_13FT_L13 {ex : Ex} {p : Nat} {x2 : Int32} {x3 : Int32} {x4 : Int32} {x5 : Int32} {v6 : Value} {v7 : Value} {r1 : Int32} {w1 : Wd} {w : Wd} (hp : scp p) (h1 : ¬ 6 < x5) (h2 : ex 76 [.ref p, .int x2, .int x3, .int x5] w = some (some (.int r1), w1)) (h3 : r1 < 0) : runs (T_X6_goOnFrom ex) (13, [.ref 11, .ref p, .int x2, .int x3, .int x4, .int x5, v6, v7], [], w) = runs (T_X6_goOnFrom ex) (13, [.ref 11, .ref p, .int x2, .int x3, .int x4, .int (x5 + 1), .null, .null], [], w1) := by
  rcases hp with rfl | rfl
  · exact (runs_stps (q' := (17, [.ref 11, .ref 20, .int x2, .int x3, .int x4, .int x5, .null, .null], [.int 6, .int x5], w)) 2 rfl).trans <|
    (runs_if_f (a := 79) (b := 20) (L := [.ref 11, .ref 20, .int x2, .int x3, .int x4, .int x5, .null, .null]) (st := []) (w := w) rfl h1).trans <|
    (runs_stps (q' := (25, [.ref 11, .ref 20, .int x2, .int x3, .int x4, .int x5, .null, .null], [.int x5, .int x3, .int x2, .ref 20], w)) 4 rfl).trans <|
    (runs_callV (rv := some (.int r1)) (w' := w1) rfl rfl rfl rfl h2).trans <|
    (runs_stps (q' := (32, [.ref 11, .ref 20, .int x2, .int x3, .int x4, .int x5, .int r1, .null], [.int r1], w1)) 2 rfl).trans <|
    (runs_if_t (a := 73) (b := 35) (L := [.ref 11, .ref 20, .int x2, .int x3, .int x4, .int x5, .int r1, .null]) (st := []) (w := w1) rfl h3).trans <|
    (runs_stps (q' := (13, [.ref 11, .ref 20, .int x2, .int x3, .int x4, .int (x5 + 1), .null, .null], [], w1)) 2 rfl).trans <|
    rfl
  · exact (runs_stps (q' := (17, [.ref 11, .ref 27, .int x2, .int x3, .int x4, .int x5, .null, .null], [.int 6, .int x5], w)) 2 rfl).trans <|
    (runs_if_f (a := 79) (b := 20) (L := [.ref 11, .ref 27, .int x2, .int x3, .int x4, .int x5, .null, .null]) (st := []) (w := w) rfl h1).trans <|
    (runs_stps (q' := (25, [.ref 11, .ref 27, .int x2, .int x3, .int x4, .int x5, .null, .null], [.int x5, .int x3, .int x2, .ref 27], w)) 4 rfl).trans <|
    (runs_callV (rv := some (.int r1)) (w' := w1) rfl rfl rfl rfl h2).trans <|
    (runs_stps (q' := (32, [.ref 11, .ref 27, .int x2, .int x3, .int x4, .int x5, .int r1, .null], [.int r1], w1)) 2 rfl).trans <|
    (runs_if_t (a := 73) (b := 35) (L := [.ref 11, .ref 27, .int x2, .int x3, .int x4, .int x5, .int r1, .null]) (st := []) (w := w1) rfl h3).trans <|
    (runs_stps (q' := (13, [.ref 11, .ref 27, .int x2, .int x3, .int x4, .int (x5 + 1), .null, .null], [], w1)) 2 rfl).trans <|
    rfl
theorem p_X6_goOnFrom_13FFT_L13 {ex : Ex} {p : Nat} {x2 : Int32} {x3 : Int32} {x4 : Int32} {x5 : Int32} {v6 : Value} {v7 : Value} {r1 : Int32} {w1 : Wd} {r2 : Int32} {w2 : Wd} {w3 : Wd} {w : Wd} (hp : scp p) (h1 : ¬ 6 < x5) (h2 : ex 76 [.ref p, .int x2, .int x3, .int x5] w = some (some (.int r1), w1)) (h3 : ¬ r1 < 0) (h4 : ¬ x4 = 0) (h5 : ex 77 [.ref p, .int x2, .int x5] w1 = some (some (.int r2), w2)) (h6 : ex 85 [.ref 11, .int r1, .int (((x4 + (r2 * 65536)) + 8) + 0)] w2 = some (none, w3)) : runs (T_X6_goOnFrom ex) (13, [.ref 11, .ref p, .int x2, .int x3, .int x4, .int x5, v6, v7], [], w) = runs (T_X6_goOnFrom ex) (13, [.ref 11, .ref p, .int x2, .int x3, .int x4, .int (x5 + 1), .null, .null], [], w3) := by
  rcases hp with rfl | rfl
  · exact (runs_stps (q' := (17, [.ref 11, .ref 20, .int x2, .int x3, .int x4, .int x5, .null, .null], [.int 6, .int x5], w)) 2 rfl).trans <|
    (runs_if_f (a := 79) (b := 20) (L := [.ref 11, .ref 20, .int x2, .int x3, .int x4, .int x5, .null, .null]) (st := []) (w := w) rfl h1).trans <|
    (runs_stps (q' := (25, [.ref 11, .ref 20, .int x2, .int x3, .int x4, .int x5, .null, .null], [.int x5, .int x3, .int x2, .ref 20], w)) 4 rfl).trans <|
    (runs_callV (rv := some (.int r1)) (w' := w1) rfl rfl rfl rfl h2).trans <|
    (runs_stps (q' := (32, [.ref 11, .ref 20, .int x2, .int x3, .int x4, .int x5, .int r1, .null], [.int r1], w1)) 2 rfl).trans <|
    (runs_if_f (a := 73) (b := 35) (L := [.ref 11, .ref 20, .int x2, .int x3, .int x4, .int x5, .int r1, .null]) (st := []) (w := w1) rfl h3).trans <|
    (runs_stps (q' := (37, [.ref 11, .ref 20, .int x2, .int x3, .int x4, .int x5, .int r1, .null], [.int x4], w1)) 1 rfl).trans <|
    (runs_if_f (a := 40) (b := 45) (L := [.ref 11, .ref 20, .int x2, .int x3, .int x4, .int x5, .int r1, .null]) (st := []) (w := w1) rfl h4).trans <|
    (runs_stps (q' := (57, [.ref 11, .ref 20, .int x2, .int x3, .int x4, .int x5, .int r1, .int 0], [.int x5, .int x2, .ref 20, .int x4, .int r1, .ref 11], w1)) 8 rfl).trans <|
    (runs_callV (rv := some (.int r2)) (w' := w2) rfl rfl rfl rfl h5).trans <|
    (runs_stps (q' := (70, [.ref 11, .ref 20, .int x2, .int x3, .int x4, .int x5, .int r1, .int 0], [.int (((x4 + (r2 * 65536)) + 8) + 0), .int r1, .ref 11], w2)) 7 rfl).trans <|
    (runs_callV (rv := none) (w' := w3) rfl rfl rfl rfl h6).trans <|
    (runs_stps (q' := (13, [.ref 11, .ref 20, .int x2, .int x3, .int x4, .int (x5 + 1), .null, .null], [], w3)) 2 rfl).trans <|
    rfl
  · exact (runs_stps (q' := (17, [.ref 11, .ref 27, .int x2, .int x3, .int x4, .int x5, .null, .null], [.int 6, .int x5], w)) 2 rfl).trans <|
    (runs_if_f (a := 79) (b := 20) (L := [.ref 11, .ref 27, .int x2, .int x3, .int x4, .int x5, .null, .null]) (st := []) (w := w) rfl h1).trans <|
    (runs_stps (q' := (25, [.ref 11, .ref 27, .int x2, .int x3, .int x4, .int x5, .null, .null], [.int x5, .int x3, .int x2, .ref 27], w)) 4 rfl).trans <|
    (runs_callV (rv := some (.int r1)) (w' := w1) rfl rfl rfl rfl h2).trans <|
    (runs_stps (q' := (32, [.ref 11, .ref 27, .int x2, .int x3, .int x4, .int x5, .int r1, .null], [.int r1], w1)) 2 rfl).trans <|
    (runs_if_f (a := 73) (b := 35) (L := [.ref 11, .ref 27, .int x2, .int x3, .int x4, .int x5, .int r1, .null]) (st := []) (w := w1) rfl h3).trans <|
    (runs_stps (q' := (37, [.ref 11, .ref 27, .int x2, .int x3, .int x4, .int x5, .int r1, .null], [.int x4], w1)) 1 rfl).trans <|
    (runs_if_f (a := 40) (b := 45) (L := [.ref 11, .ref 27, .int x2, .int x3, .int x4, .int x5, .int r1, .null]) (st := []) (w := w1) rfl h4).trans <|
    (runs_stps (q' := (57, [.ref 11, .ref 27, .int x2, .int x3, .int x4, .int x5, .int r1, .int 0], [.int x5, .int x2, .ref 27, .int x4, .int r1, .ref 11], w1)) 8 rfl).trans <|
    (runs_callV (rv := some (.int r2)) (w' := w2) rfl rfl rfl rfl h5).trans <|
    (runs_stps (q' := (70, [.ref 11, .ref 27, .int x2, .int x3, .int x4, .int x5, .int r1, .int 0], [.int (((x4 + (r2 * 65536)) + 8) + 0), .int r1, .ref 11], w2)) 7 rfl).trans <|
    (runs_callV (rv := none) (w' := w3) rfl rfl rfl rfl h6).trans <|
    (runs_stps (q' := (13, [.ref 11, .ref 27, .int x2, .int x3, .int x4, .int (x5 + 1), .null, .null], [], w3)) 2 rfl).trans <|
    rfl
theorem p_X6_goOnFrom_13FFF_L13 {ex : Ex} {p : Nat} {x2 : Int32} {x3 : Int32} {x4 : Int32} {x5 : Int32} {v6 : Value} {v7 : Value} {r1 : Int32} {w1 : Wd} {r2 : Int32} {w2 : Wd} {w3 : Wd} {w : Wd} (hp : scp p) (h1 : ¬ 6 < x5) (h2 : ex 76 [.ref p, .int x2, .int x3, .int x5] w = some (some (.int r1), w1)) (h3 : ¬ r1 < 0) (h4 : x4 = 0) (h5 : ex 77 [.ref p, .int x2, .int x5] w1 = some (some (.int r2), w2)) (h6 : ex 85 [.ref 11, .int r1, .int (((x4 + (r2 * 65536)) + 8) + x5)] w2 = some (none, w3)) : runs (T_X6_goOnFrom ex) (13, [.ref 11, .ref p, .int x2, .int x3, .int x4, .int x5, v6, v7], [], w) = runs (T_X6_goOnFrom ex) (13, [.ref 11, .ref p, .int x2, .int x3, .int x4, .int (x5 + 1), .null, .null], [], w3) := by
  rcases hp with rfl | rfl
  · exact (runs_stps (q' := (17, [.ref 11, .ref 20, .int x2, .int x3, .int x4, .int x5, .null, .null], [.int 6, .int x5], w)) 2 rfl).trans <|
    (runs_if_f (a := 79) (b := 20) (L := [.ref 11, .ref 20, .int x2, .int x3, .int x4, .int x5, .null, .null]) (st := []) (w := w) rfl h1).trans <|
    (runs_stps (q' := (25, [.ref 11, .ref 20, .int x2, .int x3, .int x4, .int x5, .null, .null], [.int x5, .int x3, .int x2, .ref 20], w)) 4 rfl).trans <|
    (runs_callV (rv := some (.int r1)) (w' := w1) rfl rfl rfl rfl h2).trans <|
    (runs_stps (q' := (32, [.ref 11, .ref 20, .int x2, .int x3, .int x4, .int x5, .int r1, .null], [.int r1], w1)) 2 rfl).trans <|
    (runs_if_f (a := 73) (b := 35) (L := [.ref 11, .ref 20, .int x2, .int x3, .int x4, .int x5, .int r1, .null]) (st := []) (w := w1) rfl h3).trans <|
    (runs_stps (q' := (37, [.ref 11, .ref 20, .int x2, .int x3, .int x4, .int x5, .int r1, .null], [.int x4], w1)) 1 rfl).trans <|
    (runs_if_t (a := 40) (b := 45) (L := [.ref 11, .ref 20, .int x2, .int x3, .int x4, .int x5, .int r1, .null]) (st := []) (w := w1) rfl h4).trans <|
    (runs_stps (q' := (57, [.ref 11, .ref 20, .int x2, .int x3, .int x4, .int x5, .int r1, .int x5], [.int x5, .int x2, .ref 20, .int x4, .int r1, .ref 11], w1)) 9 rfl).trans <|
    (runs_callV (rv := some (.int r2)) (w' := w2) rfl rfl rfl rfl h5).trans <|
    (runs_stps (q' := (70, [.ref 11, .ref 20, .int x2, .int x3, .int x4, .int x5, .int r1, .int x5], [.int (((x4 + (r2 * 65536)) + 8) + x5), .int r1, .ref 11], w2)) 7 rfl).trans <|
    (runs_callV (rv := none) (w' := w3) rfl rfl rfl rfl h6).trans <|
    (runs_stps (q' := (13, [.ref 11, .ref 20, .int x2, .int x3, .int x4, .int (x5 + 1), .null, .null], [], w3)) 2 rfl).trans <|
    rfl
  · exact (runs_stps (q' := (17, [.ref 11, .ref 27, .int x2, .int x3, .int x4, .int x5, .null, .null], [.int 6, .int x5], w)) 2 rfl).trans <|
    (runs_if_f (a := 79) (b := 20) (L := [.ref 11, .ref 27, .int x2, .int x3, .int x4, .int x5, .null, .null]) (st := []) (w := w) rfl h1).trans <|
    (runs_stps (q' := (25, [.ref 11, .ref 27, .int x2, .int x3, .int x4, .int x5, .null, .null], [.int x5, .int x3, .int x2, .ref 27], w)) 4 rfl).trans <|
    (runs_callV (rv := some (.int r1)) (w' := w1) rfl rfl rfl rfl h2).trans <|
    (runs_stps (q' := (32, [.ref 11, .ref 27, .int x2, .int x3, .int x4, .int x5, .int r1, .null], [.int r1], w1)) 2 rfl).trans <|
    (runs_if_f (a := 73) (b := 35) (L := [.ref 11, .ref 27, .int x2, .int x3, .int x4, .int x5, .int r1, .null]) (st := []) (w := w1) rfl h3).trans <|
    (runs_stps (q' := (37, [.ref 11, .ref 27, .int x2, .int x3, .int x4, .int x5, .int r1, .null], [.int x4], w1)) 1 rfl).trans <|
    (runs_if_t (a := 40) (b := 45) (L := [.ref 11, .ref 27, .int x2, .int x3, .int x4, .int x5, .int r1, .null]) (st := []) (w := w1) rfl h4).trans <|
    (runs_stps (q' := (57, [.ref 11, .ref 27, .int x2, .int x3, .int x4, .int x5, .int r1, .int x5], [.int x5, .int x2, .ref 27, .int x4, .int r1, .ref 11], w1)) 9 rfl).trans <|
    (runs_callV (rv := some (.int r2)) (w' := w2) rfl rfl rfl rfl h5).trans <|
    (runs_stps (q' := (70, [.ref 11, .ref 27, .int x2, .int x3, .int x4, .int x5, .int r1, .int x5], [.int (((x4 + (r2 * 65536)) + 8) + x5), .int r1, .ref 11], w2)) 7 rfl).trans <|
    (runs_callV (rv := none) (w' := w3) rfl rfl rfl rfl h6).trans <|
    (runs_stps (q' := (13, [.ref 11, .ref 27, .int x2, .int x3, .int x4, .int (x5 + 1), .null, .null], [], w3)) 2 rfl).trans <|
    rfl
theorem p_X6_offer_0TT_R {ex : Ex} {x1 : Int32} {x2 : Int32} {r1 : Int32} {w1 : Wd} {w2 : Wd} {r3 : Int32} {w3 : Wd} {w4 : Wd} {w : Wd} (h1 : ex 133 [.ref 12, .int x1] w = some (some (.int r1), w1)) (h2 : x2 < r1) (h3 : ex 134 [.ref 12, .int x1, .int x2] w1 = some (none, w2)) (h4 : ¬ r1 = 1073741824) (h5 : ex 133 [.ref 14, .int x1] w2 = some (some (.int r3), w3)) (h6 : ex 87 [.ref 11, .int r3, .int x1] w3 = some (none, w4)) : runs (T_X6_offer ex) (0, [.ref 11, .int x1, .int x2, .null], [], w) = some (none, w4) := 
    (runs_stps (q' := (5, [.ref 11, .int x1, .int x2, .null], [.int x1, .ref 12], w)) 3 rfl).trans <|
    (runs_callS (rv := some (.int r1)) (w' := w1) rfl rfl rfl h1).trans <|
    (runs_stps (q' := (11, [.ref 11, .int x1, .int x2, .int r1], [.int r1, .int x2], w1)) 3 rfl).trans <|
    (runs_if_t (a := 15) (b := 14) (L := [.ref 11, .int x1, .int x2, .int r1]) (st := []) (w := w1) rfl h2).trans <|
    (runs_stps (q' := (21, [.ref 11, .int x1, .int x2, .int r1], [.int x2, .int x1, .ref 12], w1)) 4 rfl).trans <|
    (runs_callS (rv := none) (w' := w2) rfl rfl rfl h3).trans <|
    (runs_stps (q' := (27, [.ref 11, .int x1, .int x2, .int r1], [.int 1073741824, .int r1], w2)) 2 rfl).trans <|
    (runs_if_f (a := 30) (b := 52) (L := [.ref 11, .int x1, .int x2, .int r1]) (st := []) (w := w2) rfl h4).trans <|
    (runs_stps (q' := (58, [.ref 11, .int x1, .null, .null], [.int x1, .ref 14, .ref 11], w2)) 4 rfl).trans <|
    (runs_callS (rv := some (.int r3)) (w' := w3) rfl rfl rfl h5).trans <|
    (runs_stps (q' := (62, [.ref 11, .int x1, .null, .null], [.int x1, .int r3, .ref 11], w3)) 1 rfl).trans <|
    (runs_callV (rv := none) (w' := w4) rfl rfl rfl rfl h6).trans <|
    runs_ret rfl
theorem p_X6_offer_0TF_R {ex : Ex} {x1 : Int32} {x2 : Int32} {r1 : Int32} {w1 : Wd} {w2 : Wd} {w3 : Wd} {w : Wd} (h1 : ex 133 [.ref 12, .int x1] w = some (some (.int r1), w1)) (h2 : x2 < r1) (h3 : ex 134 [.ref 12, .int x1, .int x2] w1 = some (none, w2)) (h4 : r1 = 1073741824) (h5 : ex 87 [.ref 11, .int (w2.1 11 3), .int x1] w2 = some (none, w3)) : runs (T_X6_offer ex) (0, [.ref 11, .int x1, .int x2, .null], [], w) = some (none, updI w3 11 3 ((w3.1 11 3) + 1)) := 
    (runs_stps (q' := (5, [.ref 11, .int x1, .int x2, .null], [.int x1, .ref 12], w)) 3 rfl).trans <|
    (runs_callS (rv := some (.int r1)) (w' := w1) rfl rfl rfl h1).trans <|
    (runs_stps (q' := (11, [.ref 11, .int x1, .int x2, .int r1], [.int r1, .int x2], w1)) 3 rfl).trans <|
    (runs_if_t (a := 15) (b := 14) (L := [.ref 11, .int x1, .int x2, .int r1]) (st := []) (w := w1) rfl h2).trans <|
    (runs_stps (q' := (21, [.ref 11, .int x1, .int x2, .int r1], [.int x2, .int x1, .ref 12], w1)) 4 rfl).trans <|
    (runs_callS (rv := none) (w' := w2) rfl rfl rfl h3).trans <|
    (runs_stps (q' := (27, [.ref 11, .int x1, .int x2, .int r1], [.int 1073741824, .int r1], w2)) 2 rfl).trans <|
    (runs_if_t (a := 30) (b := 52) (L := [.ref 11, .int x1, .int x2, .int r1]) (st := []) (w := w2) rfl h4).trans <|
    (runs_stps (q' := (36, [.ref 11, .int x1, .int x2, .int r1], [.int x1, .int (w2.1 11 3), .ref 11], w2)) 4 rfl).trans <|
    (runs_callV (rv := none) (w' := w3) rfl rfl rfl rfl h5).trans <|
    (runs_stps (q' := (65, [.ref 11, .int x1, .int x2, .int r1], [], updI w3 11 3 ((w3.1 11 3) + 1))) 7 rfl).trans <|
    runs_ret rfl
theorem p_X6_offer_0F_R {ex : Ex} {x1 : Int32} {x2 : Int32} {r1 : Int32} {w1 : Wd} {w : Wd} (h1 : ex 133 [.ref 12, .int x1] w = some (some (.int r1), w1)) (h2 : ¬ x2 < r1) : runs (T_X6_offer ex) (0, [.ref 11, .int x1, .int x2, .null], [], w) = some (none, w1) := 
    (runs_stps (q' := (5, [.ref 11, .int x1, .int x2, .null], [.int x1, .ref 12], w)) 3 rfl).trans <|
    (runs_callS (rv := some (.int r1)) (w' := w1) rfl rfl rfl h1).trans <|
    (runs_stps (q' := (11, [.ref 11, .int x1, .int x2, .int r1], [.int r1, .int x2], w1)) 3 rfl).trans <|
    (runs_if_f (a := 15) (b := 14) (L := [.ref 11, .int x1, .int x2, .int r1]) (st := []) (w := w1) rfl h2).trans <|
    runs_ret rfl
theorem p_X6_takeLeast_0T_R {ex : Ex} {r1 : Int32} {w1 : Wd} {w : Wd} (h1 : ex 133 [.ref 13, .int 0] w = some (some (.int r1), w1)) (h2 : ((w1.1 11 3) - 1) ≤ 0) : runs (T_X6_takeLeast ex) (0, [.ref 11, .null], [], w) = some (some (.int r1), updI w1 11 3 ((w1.1 11 3) - 1)) := 
    (runs_stps (q' := (5, [.ref 11, .null], [.int 0, .ref 13], w)) 3 rfl).trans <|
    (runs_callS (rv := some (.int r1)) (w' := w1) rfl rfl rfl h1).trans <|
    (runs_stps (q' := (23, [.ref 11, .int r1], [.int ((w1.1 11 3) - 1)], updI w1 11 3 ((w1.1 11 3) - 1))) 9 rfl).trans <|
    (runs_if_t (a := 41) (b := 26) (L := [.ref 11, .int r1]) (st := []) (w := updI w1 11 3 ((w1.1 11 3) - 1)) rfl h2).trans <|
    (runs_stps (q' := (42, [.null, .int r1], [.int r1], updI w1 11 3 ((w1.1 11 3) - 1))) 1 rfl).trans <|
    runs_ret rfl
theorem p_X6_takeLeast_0F_R {ex : Ex} {r1 : Int32} {w1 : Wd} {r2 : Int32} {w2 : Wd} {w3 : Wd} {w : Wd} (h1 : ex 133 [.ref 13, .int 0] w = some (some (.int r1), w1)) (h2 : ¬ ((w1.1 11 3) - 1) ≤ 0) (h3 : ex 133 [.ref 13, .int ((w1.1 11 3) - 1)] (updI w1 11 3 ((w1.1 11 3) - 1)) = some (some (.int r2), w2)) (h4 : ex 88 [.ref 11, .int r2] w2 = some (none, w3)) : runs (T_X6_takeLeast ex) (0, [.ref 11, .null], [], w) = some (some (.int r1), w3) := 
    (runs_stps (q' := (5, [.ref 11, .null], [.int 0, .ref 13], w)) 3 rfl).trans <|
    (runs_callS (rv := some (.int r1)) (w' := w1) rfl rfl rfl h1).trans <|
    (runs_stps (q' := (23, [.ref 11, .int r1], [.int ((w1.1 11 3) - 1)], updI w1 11 3 ((w1.1 11 3) - 1))) 9 rfl).trans <|
    (runs_if_f (a := 41) (b := 26) (L := [.ref 11, .int r1]) (st := []) (w := updI w1 11 3 ((w1.1 11 3) - 1)) rfl h2).trans <|
    (runs_stps (q' := (35, [.ref 11, .int r1], [.int ((w1.1 11 3) - 1), .ref 13, .ref 11], updI w1 11 3 ((w1.1 11 3) - 1))) 5 rfl).trans <|
    (runs_callS (rv := some (.int r2)) (w' := w2) rfl rfl rfl h3).trans <|
    (runs_callV (rv := none) (w' := w3) rfl rfl rfl rfl h4).trans <|
    (runs_stps (q' := (42, [.null, .int r1], [.int r1], w3)) 1 rfl).trans <|
    runs_ret rfl
theorem p_X6_rise_0_L5 {ex : Ex} {x1 : Int32} {x2 : Int32} {w : Wd} : runs (T_X6_rise ex) (0, [.ref 11, .int x1, .int x2, .null, .null, .null], [], w) = runs (T_X6_rise ex) (5, [.ref 11, .int x1, .int x2, .int x1, .int 0, .null], [], w) := 
    (runs_stps (q' := (5, [.ref 11, .int x1, .int x2, .int x1, .int 0, .null], [], w)) 4 rfl).trans <|
    rfl
theorem p_X6_rise_5T_R {ex : Ex} {v1 : Value} {x2 : Int32} {x3 : Int32} {x4 : Int32} {v5 : Value} {w1 : Wd} {w : Wd} (h1 : 32 ≤ x4) (h2 : ex 90 [.ref 11, .int x2, .int x3] w = some (none, w1)) : runs (T_X6_rise ex) (5, [.ref 11, v1, .int x2, .int x3, .int x4, v5], [], w) = some (none, w1) := 
    (runs_stps (q' := (9, [.ref 11, .null, .int x2, .int x3, .int x4, .null], [.int 32, .int x4], w)) 2 rfl).trans <|
    (runs_if_t (a := 72) (b := 12) (L := [.ref 11, .null, .int x2, .int x3, .int x4, .null]) (st := []) (w := w) rfl h1).trans <|
    (runs_stps (q' := (75, [.ref 11, .null, .int x2, .int x3, .null, .null], [.int x3, .int x2, .ref 11], w)) 3 rfl).trans <|
    (runs_callV (rv := none) (w' := w1) rfl rfl rfl rfl h2).trans <|
    runs_ret rfl
theorem p_X6_rise_5FT_R {ex : Ex} {v1 : Value} {x2 : Int32} {x3 : Int32} {x4 : Int32} {v5 : Value} {w1 : Wd} {w : Wd} (h1 : ¬ 32 ≤ x4) (h2 : x3 ≤ 0) (h3 : ex 90 [.ref 11, .int x2, .int x3] w = some (none, w1)) : runs (T_X6_rise ex) (5, [.ref 11, v1, .int x2, .int x3, .int x4, v5], [], w) = some (none, w1) := 
    (runs_stps (q' := (9, [.ref 11, .null, .int x2, .int x3, .int x4, .null], [.int 32, .int x4], w)) 2 rfl).trans <|
    (runs_if_f (a := 72) (b := 12) (L := [.ref 11, .null, .int x2, .int x3, .int x4, .null]) (st := []) (w := w) rfl h1).trans <|
    (runs_stps (q' := (13, [.ref 11, .null, .int x2, .int x3, .int x4, .null], [.int x3], w)) 1 rfl).trans <|
    (runs_if_t (a := 72) (b := 16) (L := [.ref 11, .null, .int x2, .int x3, .int x4, .null]) (st := []) (w := w) rfl h2).trans <|
    (runs_stps (q' := (75, [.ref 11, .null, .int x2, .int x3, .null, .null], [.int x3, .int x2, .ref 11], w)) 3 rfl).trans <|
    (runs_callV (rv := none) (w' := w1) rfl rfl rfl rfl h3).trans <|
    runs_ret rfl
theorem p_X6_rise_5FFT_L5 {ex : Ex} {v1 : Value} {x2 : Int32} {x3 : Int32} {x4 : Int32} {v5 : Value} {r1 : Int32} {w1 : Wd} {r2 : Int32} {w2 : Wd} {r3 : Int32} {w3 : Wd} {w4 : Wd} {w : Wd} (h1 : ¬ 32 ≤ x4) (h2 : ¬ x3 ≤ 0) (h3 : ex 133 [.ref 13, .int ((x3 - 1) / 2)] w = some (some (.int r1), w1)) (h4 : ex 133 [.ref 12, .int r1] w1 = some (some (.int r2), w2)) (h5 : ex 133 [.ref 12, .int x2] w2 = some (some (.int r3), w3)) (h6 : r3 < r2) (h7 : ex 90 [.ref 11, .int r1, .int x3] w3 = some (none, w4)) : runs (T_X6_rise ex) (5, [.ref 11, v1, .int x2, .int x3, .int x4, v5], [], w) = runs (T_X6_rise ex) (5, [.ref 11, .null, .int x2, .int ((x3 - 1) / 2), .int (x4 + 1), .int r1], [], w4) := 
    (runs_stps (q' := (9, [.ref 11, .null, .int x2, .int x3, .int x4, .null], [.int 32, .int x4], w)) 2 rfl).trans <|
    (runs_if_f (a := 72) (b := 12) (L := [.ref 11, .null, .int x2, .int x3, .int x4, .null]) (st := []) (w := w) rfl h1).trans <|
    (runs_stps (q' := (13, [.ref 11, .null, .int x2, .int x3, .int x4, .null], [.int x3], w)) 1 rfl).trans <|
    (runs_if_f (a := 72) (b := 16) (L := [.ref 11, .null, .int x2, .int x3, .int x4, .null]) (st := []) (w := w) rfl h2).trans <|
    (runs_stps (q' := (25, [.ref 11, .null, .int x2, .int x3, .int x4, .null], [.int ((x3 - 1) / 2), .ref 13], w)) 7 rfl).trans <|
    (runs_callS (rv := some (.int r1)) (w' := w1) rfl rfl rfl h3).trans <|
    (runs_stps (q' := (36, [.ref 11, .null, .int x2, .int x3, .int x4, .int r1], [.int r1, .ref 12], w1)) 4 rfl).trans <|
    (runs_callS (rv := some (.int r2)) (w' := w2) rfl rfl rfl h4).trans <|
    (runs_stps (q' := (44, [.ref 11, .null, .int x2, .int x3, .int x4, .int r1], [.int x2, .ref 12, .int r2], w2)) 3 rfl).trans <|
    (runs_callS (rv := some (.int r3)) (w' := w3) rfl rfl rfl h5).trans <|
    (runs_if_t (a := 53) (b := 50) (L := [.ref 11, .null, .int x2, .int x3, .int x4, .int r1]) (st := []) (w := w3) rfl h6).trans <|
    (runs_stps (q' := (57, [.ref 11, .null, .int x2, .int x3, .int x4, .int r1], [.int x3, .int r1, .ref 11], w3)) 3 rfl).trans <|
    (runs_callV (rv := none) (w' := w4) rfl rfl rfl rfl h7).trans <|
    (runs_stps (q' := (5, [.ref 11, .null, .int x2, .int ((x3 - 1) / 2), .int (x4 + 1), .int r1], [], w4)) 8 rfl).trans <|
    rfl
theorem p_X6_rise_5FFF_R {ex : Ex} {v1 : Value} {x2 : Int32} {x3 : Int32} {x4 : Int32} {v5 : Value} {r1 : Int32} {w1 : Wd} {r2 : Int32} {w2 : Wd} {r3 : Int32} {w3 : Wd} {w4 : Wd} {w : Wd} (h1 : ¬ 32 ≤ x4) (h2 : ¬ x3 ≤ 0) (h3 : ex 133 [.ref 13, .int ((x3 - 1) / 2)] w = some (some (.int r1), w1)) (h4 : ex 133 [.ref 12, .int r1] w1 = some (some (.int r2), w2)) (h5 : ex 133 [.ref 12, .int x2] w2 = some (some (.int r3), w3)) (h6 : ¬ r3 < r2) (h7 : ex 90 [.ref 11, .int x2, .int x3] w3 = some (none, w4)) : runs (T_X6_rise ex) (5, [.ref 11, v1, .int x2, .int x3, .int x4, v5], [], w) = some (none, w4) := 
    (runs_stps (q' := (9, [.ref 11, .null, .int x2, .int x3, .int x4, .null], [.int 32, .int x4], w)) 2 rfl).trans <|
    (runs_if_f (a := 72) (b := 12) (L := [.ref 11, .null, .int x2, .int x3, .int x4, .null]) (st := []) (w := w) rfl h1).trans <|
    (runs_stps (q' := (13, [.ref 11, .null, .int x2, .int x3, .int x4, .null], [.int x3], w)) 1 rfl).trans <|
    (runs_if_f (a := 72) (b := 16) (L := [.ref 11, .null, .int x2, .int x3, .int x4, .null]) (st := []) (w := w) rfl h2).trans <|
    (runs_stps (q' := (25, [.ref 11, .null, .int x2, .int x3, .int x4, .null], [.int ((x3 - 1) / 2), .ref 13], w)) 7 rfl).trans <|
    (runs_callS (rv := some (.int r1)) (w' := w1) rfl rfl rfl h3).trans <|
    (runs_stps (q' := (36, [.ref 11, .null, .int x2, .int x3, .int x4, .int r1], [.int r1, .ref 12], w1)) 4 rfl).trans <|
    (runs_callS (rv := some (.int r2)) (w' := w2) rfl rfl rfl h4).trans <|
    (runs_stps (q' := (44, [.ref 11, .null, .int x2, .int x3, .int x4, .int r1], [.int x2, .ref 12, .int r2], w2)) 3 rfl).trans <|
    (runs_callS (rv := some (.int r3)) (w' := w3) rfl rfl rfl h5).trans <|
    (runs_if_f (a := 53) (b := 50) (L := [.ref 11, .null, .int x2, .int x3, .int x4, .int r1]) (st := []) (w := w3) rfl h6).trans <|
    (runs_stps (q' := (75, [.ref 11, .null, .int x2, .int x3, .null, .null], [.int x3, .int x2, .ref 11], w3)) 4 rfl).trans <|
    (runs_callV (rv := none) (w' := w4) rfl rfl rfl rfl h7).trans <|
    runs_ret rfl
theorem p_X6_sink_0_L4 {ex : Ex} {x1 : Int32} {w : Wd} : runs (T_X6_sink ex) (0, [.ref 11, .int x1, .null, .null, .null], [], w) = runs (T_X6_sink ex) (4, [.ref 11, .int x1, .int 0, .int 0, .null], [], w) := 
    (runs_stps (q' := (4, [.ref 11, .int x1, .int 0, .int 0, .null], [], w)) 4 rfl).trans <|
    rfl
theorem p_X6_sink_4T_R {ex : Ex} {x1 : Int32} {x2 : Int32} {x3 : Int32} {v4 : Value} {w1 : Wd} {w : Wd} (h1 : 32 ≤ x3) (h2 : ex 90 [.ref 11, .int x1, .int x2] w = some (none, w1)) : runs (T_X6_sink ex) (4, [.ref 11, .int x1, .int x2, .int x3, v4], [], w) = some (none, w1) := 
    (runs_stps (q' := (7, [.ref 11, .int x1, .int x2, .int x3, .null], [.int 32, .int x3], w)) 2 rfl).trans <|
    (runs_if_t (a := 103) (b := 10) (L := [.ref 11, .int x1, .int x2, .int x3, .null]) (st := []) (w := w) rfl h1).trans <|
    (runs_stps (q' := (106, [.ref 11, .int x1, .int x2, .null, .null], [.int x2, .int x1, .ref 11], w)) 3 rfl).trans <|
    (runs_callV (rv := none) (w' := w1) rfl rfl rfl rfl h2).trans <|
    runs_ret rfl
theorem p_X6_sink_4FT_R {ex : Ex} {x1 : Int32} {x2 : Int32} {x3 : Int32} {v4 : Value} {w1 : Wd} {w : Wd} (h1 : ¬ 32 ≤ x3) (h2 : (w.1 11 3) ≤ ((2 * x2) + 1)) (h3 : ex 90 [.ref 11, .int x1, .int x2] w = some (none, w1)) : runs (T_X6_sink ex) (4, [.ref 11, .int x1, .int x2, .int x3, v4], [], w) = some (none, w1) := 
    (runs_stps (q' := (7, [.ref 11, .int x1, .int x2, .int x3, .null], [.int 32, .int x3], w)) 2 rfl).trans <|
    (runs_if_f (a := 103) (b := 10) (L := [.ref 11, .int x1, .int x2, .int x3, .null]) (st := []) (w := w) rfl h1).trans <|
    (runs_stps (q' := (19, [.ref 11, .int x1, .int x2, .int x3, .null], [.int (w.1 11 3), .int ((2 * x2) + 1)], w)) 7 rfl).trans <|
    (runs_if_t (a := 103) (b := 22) (L := [.ref 11, .int x1, .int x2, .int x3, .null]) (st := []) (w := w) rfl h2).trans <|
    (runs_stps (q' := (106, [.ref 11, .int x1, .int x2, .null, .null], [.int x2, .int x1, .ref 11], w)) 3 rfl).trans <|
    (runs_callV (rv := none) (w' := w1) rfl rfl rfl rfl h3).trans <|
    runs_ret rfl
theorem p_X6_sink_4FFTT_L4 {ex : Ex} {x1 : Int32} {x2 : Int32} {x3 : Int32} {v4 : Value} {r1 : Int32} {w1 : Wd} {r2 : Int32} {w2 : Wd} {r3 : Int32} {w3 : Wd} {w4 : Wd} {w : Wd} (h1 : ¬ 32 ≤ x3) (h2 : ¬ (w.1 11 3) ≤ ((2 * x2) + 1)) (h3 : (w.1 11 3) ≤ (((2 * x2) + 1) + 1)) (h4 : ex 89 [.ref 11, .int ((2 * x2) + 1)] w = some (some (.int r1), w1)) (h5 : ex 133 [.ref 12, .int x1] w1 = some (some (.int r2), w2)) (h6 : r1 < r2) (h7 : ex 133 [.ref 13, .int ((2 * x2) + 1)] w2 = some (some (.int r3), w3)) (h8 : ex 90 [.ref 11, .int r3, .int x2] w3 = some (none, w4)) : runs (T_X6_sink ex) (4, [.ref 11, .int x1, .int x2, .int x3, v4], [], w) = runs (T_X6_sink ex) (4, [.ref 11, .int x1, .int ((2 * x2) + 1), .int (x3 + 1), .int ((2 * x2) + 1)], [], w4) := 
    (runs_stps (q' := (7, [.ref 11, .int x1, .int x2, .int x3, .null], [.int 32, .int x3], w)) 2 rfl).trans <|
    (runs_if_f (a := 103) (b := 10) (L := [.ref 11, .int x1, .int x2, .int x3, .null]) (st := []) (w := w) rfl h1).trans <|
    (runs_stps (q' := (19, [.ref 11, .int x1, .int x2, .int x3, .null], [.int (w.1 11 3), .int ((2 * x2) + 1)], w)) 7 rfl).trans <|
    (runs_if_f (a := 103) (b := 22) (L := [.ref 11, .int x1, .int x2, .int x3, .null]) (st := []) (w := w) rfl h2).trans <|
    (runs_stps (q' := (37, [.ref 11, .int x1, .int x2, .int x3, .int ((2 * x2) + 1)], [.int (w.1 11 3), .int (((2 * x2) + 1) + 1)], w)) 11 rfl).trans <|
    (runs_if_t (a := 60) (b := 40) (L := [.ref 11, .int x1, .int x2, .int x3, .int ((2 * x2) + 1)]) (st := []) (w := w) rfl h3).trans <|
    (runs_stps (q' := (63, [.ref 11, .int x1, .int x2, .int x3, .int ((2 * x2) + 1)], [.int ((2 * x2) + 1), .ref 11], w)) 2 rfl).trans <|
    (runs_callV (rv := some (.int r1)) (w' := w1) rfl rfl rfl rfl h4).trans <|
    (runs_stps (q' := (71, [.ref 11, .int x1, .int x2, .int x3, .int ((2 * x2) + 1)], [.int x1, .ref 12, .int r1], w1)) 3 rfl).trans <|
    (runs_callS (rv := some (.int r2)) (w' := w2) rfl rfl rfl h5).trans <|
    (runs_if_t (a := 80) (b := 77) (L := [.ref 11, .int x1, .int x2, .int x3, .int ((2 * x2) + 1)]) (st := []) (w := w2) rfl h6).trans <|
    (runs_stps (q' := (87, [.ref 11, .int x1, .int x2, .int x3, .int ((2 * x2) + 1)], [.int ((2 * x2) + 1), .ref 13, .ref 11], w2)) 4 rfl).trans <|
    (runs_callS (rv := some (.int r3)) (w' := w3) rfl rfl rfl h7).trans <|
    (runs_stps (q' := (91, [.ref 11, .int x1, .int x2, .int x3, .int ((2 * x2) + 1)], [.int x2, .int r3, .ref 11], w3)) 1 rfl).trans <|
    (runs_callV (rv := none) (w' := w4) rfl rfl rfl rfl h8).trans <|
    (runs_stps (q' := (4, [.ref 11, .int x1, .int ((2 * x2) + 1), .int (x3 + 1), .int ((2 * x2) + 1)], [], w4)) 4 rfl).trans <|
    rfl
theorem p_X6_sink_4FFTF_R {ex : Ex} {x1 : Int32} {x2 : Int32} {x3 : Int32} {v4 : Value} {r1 : Int32} {w1 : Wd} {r2 : Int32} {w2 : Wd} {w3 : Wd} {w : Wd} (h1 : ¬ 32 ≤ x3) (h2 : ¬ (w.1 11 3) ≤ ((2 * x2) + 1)) (h3 : (w.1 11 3) ≤ (((2 * x2) + 1) + 1)) (h4 : ex 89 [.ref 11, .int ((2 * x2) + 1)] w = some (some (.int r1), w1)) (h5 : ex 133 [.ref 12, .int x1] w1 = some (some (.int r2), w2)) (h6 : ¬ r1 < r2) (h7 : ex 90 [.ref 11, .int x1, .int x2] w2 = some (none, w3)) : runs (T_X6_sink ex) (4, [.ref 11, .int x1, .int x2, .int x3, v4], [], w) = some (none, w3) := 
    (runs_stps (q' := (7, [.ref 11, .int x1, .int x2, .int x3, .null], [.int 32, .int x3], w)) 2 rfl).trans <|
    (runs_if_f (a := 103) (b := 10) (L := [.ref 11, .int x1, .int x2, .int x3, .null]) (st := []) (w := w) rfl h1).trans <|
    (runs_stps (q' := (19, [.ref 11, .int x1, .int x2, .int x3, .null], [.int (w.1 11 3), .int ((2 * x2) + 1)], w)) 7 rfl).trans <|
    (runs_if_f (a := 103) (b := 22) (L := [.ref 11, .int x1, .int x2, .int x3, .null]) (st := []) (w := w) rfl h2).trans <|
    (runs_stps (q' := (37, [.ref 11, .int x1, .int x2, .int x3, .int ((2 * x2) + 1)], [.int (w.1 11 3), .int (((2 * x2) + 1) + 1)], w)) 11 rfl).trans <|
    (runs_if_t (a := 60) (b := 40) (L := [.ref 11, .int x1, .int x2, .int x3, .int ((2 * x2) + 1)]) (st := []) (w := w) rfl h3).trans <|
    (runs_stps (q' := (63, [.ref 11, .int x1, .int x2, .int x3, .int ((2 * x2) + 1)], [.int ((2 * x2) + 1), .ref 11], w)) 2 rfl).trans <|
    (runs_callV (rv := some (.int r1)) (w' := w1) rfl rfl rfl rfl h4).trans <|
    (runs_stps (q' := (71, [.ref 11, .int x1, .int x2, .int x3, .int ((2 * x2) + 1)], [.int x1, .ref 12, .int r1], w1)) 3 rfl).trans <|
    (runs_callS (rv := some (.int r2)) (w' := w2) rfl rfl rfl h5).trans <|
    (runs_if_f (a := 80) (b := 77) (L := [.ref 11, .int x1, .int x2, .int x3, .int ((2 * x2) + 1)]) (st := []) (w := w2) rfl h6).trans <|
    (runs_stps (q' := (106, [.ref 11, .int x1, .int x2, .null, .null], [.int x2, .int x1, .ref 11], w2)) 4 rfl).trans <|
    (runs_callV (rv := none) (w' := w3) rfl rfl rfl rfl h7).trans <|
    runs_ret rfl
theorem p_X6_sink_4FFFTT_L4 {ex : Ex} {x1 : Int32} {x2 : Int32} {x3 : Int32} {v4 : Value} {r1 : Int32} {w1 : Wd} {r2 : Int32} {w2 : Wd} {r3 : Int32} {w3 : Wd} {r4 : Int32} {w4 : Wd} {r5 : Int32} {w5 : Wd} {w6 : Wd} {w : Wd} (h1 : ¬ 32 ≤ x3) (h2 : ¬ (w.1 11 3) ≤ ((2 * x2) + 1)) (h3 : ¬ (w.1 11 3) ≤ (((2 * x2) + 1) + 1)) (h4 : ex 89 [.ref 11, .int (((2 * x2) + 1) + 1)] w = some (some (.int r1), w1)) (h5 : ex 89 [.ref 11, .int ((2 * x2) + 1)] w1 = some (some (.int r2), w2)) (h6 : r2 ≤ r1) (h7 : ex 89 [.ref 11, .int ((2 * x2) + 1)] w2 = some (some (.int r3), w3)) (h8 : ex 133 [.ref 12, .int x1] w3 = some (some (.int r4), w4)) (h9 : r3 < r4) (h10 : ex 133 [.ref 13, .int ((2 * x2) + 1)] w4 = some (some (.int r5), w5)) (h11 : ex 90 [.ref 11, .int r5, .int x2] w5 = some (none, w6)) : runs (T_X6_sink ex) (4, [.ref 11, .int x1, .int x2, .int x3, v4], [], w) = runs (T_X6_sink ex) (4, [.ref 11, .int x1, .int ((2 * x2) + 1), .int (x3 + 1), .int ((2 * x2) + 1)], [], w6) := 
    (runs_stps (q' := (7, [.ref 11, .int x1, .int x2, .int x3, .null], [.int 32, .int x3], w)) 2 rfl).trans <|
    (runs_if_f (a := 103) (b := 10) (L := [.ref 11, .int x1, .int x2, .int x3, .null]) (st := []) (w := w) rfl h1).trans <|
    (runs_stps (q' := (19, [.ref 11, .int x1, .int x2, .int x3, .null], [.int (w.1 11 3), .int ((2 * x2) + 1)], w)) 7 rfl).trans <|
    (runs_if_f (a := 103) (b := 22) (L := [.ref 11, .int x1, .int x2, .int x3, .null]) (st := []) (w := w) rfl h2).trans <|
    (runs_stps (q' := (37, [.ref 11, .int x1, .int x2, .int x3, .int ((2 * x2) + 1)], [.int (w.1 11 3), .int (((2 * x2) + 1) + 1)], w)) 11 rfl).trans <|
    (runs_if_f (a := 60) (b := 40) (L := [.ref 11, .int x1, .int x2, .int x3, .int ((2 * x2) + 1)]) (st := []) (w := w) rfl h3).trans <|
    (runs_stps (q' := (45, [.ref 11, .int x1, .int x2, .int x3, .int ((2 * x2) + 1)], [.int (((2 * x2) + 1) + 1), .ref 11], w)) 4 rfl).trans <|
    (runs_callV (rv := some (.int r1)) (w' := w1) rfl rfl rfl rfl h4).trans <|
    (runs_stps (q' := (51, [.ref 11, .int x1, .int x2, .int x3, .int ((2 * x2) + 1)], [.int ((2 * x2) + 1), .ref 11, .int r1], w1)) 2 rfl).trans <|
    (runs_callV (rv := some (.int r2)) (w' := w2) rfl rfl rfl rfl h5).trans <|
    (runs_if_t (a := 60) (b := 57) (L := [.ref 11, .int x1, .int x2, .int x3, .int ((2 * x2) + 1)]) (st := []) (w := w2) rfl h6).trans <|
    (runs_stps (q' := (63, [.ref 11, .int x1, .int x2, .int x3, .int ((2 * x2) + 1)], [.int ((2 * x2) + 1), .ref 11], w2)) 2 rfl).trans <|
    (runs_callV (rv := some (.int r3)) (w' := w3) rfl rfl rfl rfl h7).trans <|
    (runs_stps (q' := (71, [.ref 11, .int x1, .int x2, .int x3, .int ((2 * x2) + 1)], [.int x1, .ref 12, .int r3], w3)) 3 rfl).trans <|
    (runs_callS (rv := some (.int r4)) (w' := w4) rfl rfl rfl h8).trans <|
    (runs_if_t (a := 80) (b := 77) (L := [.ref 11, .int x1, .int x2, .int x3, .int ((2 * x2) + 1)]) (st := []) (w := w4) rfl h9).trans <|
    (runs_stps (q' := (87, [.ref 11, .int x1, .int x2, .int x3, .int ((2 * x2) + 1)], [.int ((2 * x2) + 1), .ref 13, .ref 11], w4)) 4 rfl).trans <|
    (runs_callS (rv := some (.int r5)) (w' := w5) rfl rfl rfl h10).trans <|
    (runs_stps (q' := (91, [.ref 11, .int x1, .int x2, .int x3, .int ((2 * x2) + 1)], [.int x2, .int r5, .ref 11], w5)) 1 rfl).trans <|
    (runs_callV (rv := none) (w' := w6) rfl rfl rfl rfl h11).trans <|
    (runs_stps (q' := (4, [.ref 11, .int x1, .int ((2 * x2) + 1), .int (x3 + 1), .int ((2 * x2) + 1)], [], w6)) 4 rfl).trans <|
    rfl
theorem p_X6_sink_4FFFTF_R {ex : Ex} {x1 : Int32} {x2 : Int32} {x3 : Int32} {v4 : Value} {r1 : Int32} {w1 : Wd} {r2 : Int32} {w2 : Wd} {r3 : Int32} {w3 : Wd} {r4 : Int32} {w4 : Wd} {w5 : Wd} {w : Wd} (h1 : ¬ 32 ≤ x3) (h2 : ¬ (w.1 11 3) ≤ ((2 * x2) + 1)) (h3 : ¬ (w.1 11 3) ≤ (((2 * x2) + 1) + 1)) (h4 : ex 89 [.ref 11, .int (((2 * x2) + 1) + 1)] w = some (some (.int r1), w1)) (h5 : ex 89 [.ref 11, .int ((2 * x2) + 1)] w1 = some (some (.int r2), w2)) (h6 : r2 ≤ r1) (h7 : ex 89 [.ref 11, .int ((2 * x2) + 1)] w2 = some (some (.int r3), w3)) (h8 : ex 133 [.ref 12, .int x1] w3 = some (some (.int r4), w4)) (h9 : ¬ r3 < r4) (h10 : ex 90 [.ref 11, .int x1, .int x2] w4 = some (none, w5)) : runs (T_X6_sink ex) (4, [.ref 11, .int x1, .int x2, .int x3, v4], [], w) = some (none, w5) := 
    (runs_stps (q' := (7, [.ref 11, .int x1, .int x2, .int x3, .null], [.int 32, .int x3], w)) 2 rfl).trans <|
    (runs_if_f (a := 103) (b := 10) (L := [.ref 11, .int x1, .int x2, .int x3, .null]) (st := []) (w := w) rfl h1).trans <|
    (runs_stps (q' := (19, [.ref 11, .int x1, .int x2, .int x3, .null], [.int (w.1 11 3), .int ((2 * x2) + 1)], w)) 7 rfl).trans <|
    (runs_if_f (a := 103) (b := 22) (L := [.ref 11, .int x1, .int x2, .int x3, .null]) (st := []) (w := w) rfl h2).trans <|
    (runs_stps (q' := (37, [.ref 11, .int x1, .int x2, .int x3, .int ((2 * x2) + 1)], [.int (w.1 11 3), .int (((2 * x2) + 1) + 1)], w)) 11 rfl).trans <|
    (runs_if_f (a := 60) (b := 40) (L := [.ref 11, .int x1, .int x2, .int x3, .int ((2 * x2) + 1)]) (st := []) (w := w) rfl h3).trans <|
    (runs_stps (q' := (45, [.ref 11, .int x1, .int x2, .int x3, .int ((2 * x2) + 1)], [.int (((2 * x2) + 1) + 1), .ref 11], w)) 4 rfl).trans <|
    (runs_callV (rv := some (.int r1)) (w' := w1) rfl rfl rfl rfl h4).trans <|
    (runs_stps (q' := (51, [.ref 11, .int x1, .int x2, .int x3, .int ((2 * x2) + 1)], [.int ((2 * x2) + 1), .ref 11, .int r1], w1)) 2 rfl).trans <|
    (runs_callV (rv := some (.int r2)) (w' := w2) rfl rfl rfl rfl h5).trans <|
    (runs_if_t (a := 60) (b := 57) (L := [.ref 11, .int x1, .int x2, .int x3, .int ((2 * x2) + 1)]) (st := []) (w := w2) rfl h6).trans <|
    (runs_stps (q' := (63, [.ref 11, .int x1, .int x2, .int x3, .int ((2 * x2) + 1)], [.int ((2 * x2) + 1), .ref 11], w2)) 2 rfl).trans <|
    (runs_callV (rv := some (.int r3)) (w' := w3) rfl rfl rfl rfl h7).trans <|
    (runs_stps (q' := (71, [.ref 11, .int x1, .int x2, .int x3, .int ((2 * x2) + 1)], [.int x1, .ref 12, .int r3], w3)) 3 rfl).trans <|
    (runs_callS (rv := some (.int r4)) (w' := w4) rfl rfl rfl h8).trans <|
    (runs_if_f (a := 80) (b := 77) (L := [.ref 11, .int x1, .int x2, .int x3, .int ((2 * x2) + 1)]) (st := []) (w := w4) rfl h9).trans <|
    (runs_stps (q' := (106, [.ref 11, .int x1, .int x2, .null, .null], [.int x2, .int x1, .ref 11], w4)) 4 rfl).trans <|
    (runs_callV (rv := none) (w' := w5) rfl rfl rfl rfl h10).trans <|
    runs_ret rfl
theorem p_X6_sink_4FFFFT_L4 {ex : Ex} {x1 : Int32} {x2 : Int32} {x3 : Int32} {v4 : Value} {r1 : Int32} {w1 : Wd} {r2 : Int32} {w2 : Wd} {r3 : Int32} {w3 : Wd} {r4 : Int32} {w4 : Wd} {r5 : Int32} {w5 : Wd} {w6 : Wd} {w : Wd} (h1 : ¬ 32 ≤ x3) (h2 : ¬ (w.1 11 3) ≤ ((2 * x2) + 1)) (h3 : ¬ (w.1 11 3) ≤ (((2 * x2) + 1) + 1)) (h4 : ex 89 [.ref 11, .int (((2 * x2) + 1) + 1)] w = some (some (.int r1), w1)) (h5 : ex 89 [.ref 11, .int ((2 * x2) + 1)] w1 = some (some (.int r2), w2)) (h6 : ¬ r2 ≤ r1) (h7 : ex 89 [.ref 11, .int (((2 * x2) + 1) + 1)] w2 = some (some (.int r3), w3)) (h8 : ex 133 [.ref 12, .int x1] w3 = some (some (.int r4), w4)) (h9 : r3 < r4) (h10 : ex 133 [.ref 13, .int (((2 * x2) + 1) + 1)] w4 = some (some (.int r5), w5)) (h11 : ex 90 [.ref 11, .int r5, .int x2] w5 = some (none, w6)) : runs (T_X6_sink ex) (4, [.ref 11, .int x1, .int x2, .int x3, v4], [], w) = runs (T_X6_sink ex) (4, [.ref 11, .int x1, .int (((2 * x2) + 1) + 1), .int (x3 + 1), .int (((2 * x2) + 1) + 1)], [], w6) := 
    (runs_stps (q' := (7, [.ref 11, .int x1, .int x2, .int x3, .null], [.int 32, .int x3], w)) 2 rfl).trans <|
    (runs_if_f (a := 103) (b := 10) (L := [.ref 11, .int x1, .int x2, .int x3, .null]) (st := []) (w := w) rfl h1).trans <|
    (runs_stps (q' := (19, [.ref 11, .int x1, .int x2, .int x3, .null], [.int (w.1 11 3), .int ((2 * x2) + 1)], w)) 7 rfl).trans <|
    (runs_if_f (a := 103) (b := 22) (L := [.ref 11, .int x1, .int x2, .int x3, .null]) (st := []) (w := w) rfl h2).trans <|
    (runs_stps (q' := (37, [.ref 11, .int x1, .int x2, .int x3, .int ((2 * x2) + 1)], [.int (w.1 11 3), .int (((2 * x2) + 1) + 1)], w)) 11 rfl).trans <|
    (runs_if_f (a := 60) (b := 40) (L := [.ref 11, .int x1, .int x2, .int x3, .int ((2 * x2) + 1)]) (st := []) (w := w) rfl h3).trans <|
    (runs_stps (q' := (45, [.ref 11, .int x1, .int x2, .int x3, .int ((2 * x2) + 1)], [.int (((2 * x2) + 1) + 1), .ref 11], w)) 4 rfl).trans <|
    (runs_callV (rv := some (.int r1)) (w' := w1) rfl rfl rfl rfl h4).trans <|
    (runs_stps (q' := (51, [.ref 11, .int x1, .int x2, .int x3, .int ((2 * x2) + 1)], [.int ((2 * x2) + 1), .ref 11, .int r1], w1)) 2 rfl).trans <|
    (runs_callV (rv := some (.int r2)) (w' := w2) rfl rfl rfl rfl h5).trans <|
    (runs_if_f (a := 60) (b := 57) (L := [.ref 11, .int x1, .int x2, .int x3, .int ((2 * x2) + 1)]) (st := []) (w := w2) rfl h6).trans <|
    (runs_stps (q' := (63, [.ref 11, .int x1, .int x2, .int x3, .int (((2 * x2) + 1) + 1)], [.int (((2 * x2) + 1) + 1), .ref 11], w2)) 3 rfl).trans <|
    (runs_callV (rv := some (.int r3)) (w' := w3) rfl rfl rfl rfl h7).trans <|
    (runs_stps (q' := (71, [.ref 11, .int x1, .int x2, .int x3, .int (((2 * x2) + 1) + 1)], [.int x1, .ref 12, .int r3], w3)) 3 rfl).trans <|
    (runs_callS (rv := some (.int r4)) (w' := w4) rfl rfl rfl h8).trans <|
    (runs_if_t (a := 80) (b := 77) (L := [.ref 11, .int x1, .int x2, .int x3, .int (((2 * x2) + 1) + 1)]) (st := []) (w := w4) rfl h9).trans <|
    (runs_stps (q' := (87, [.ref 11, .int x1, .int x2, .int x3, .int (((2 * x2) + 1) + 1)], [.int (((2 * x2) + 1) + 1), .ref 13, .ref 11], w4)) 4 rfl).trans <|
    (runs_callS (rv := some (.int r5)) (w' := w5) rfl rfl rfl h10).trans <|
    (runs_stps (q' := (91, [.ref 11, .int x1, .int x2, .int x3, .int (((2 * x2) + 1) + 1)], [.int x2, .int r5, .ref 11], w5)) 1 rfl).trans <|
    (runs_callV (rv := none) (w' := w6) rfl rfl rfl rfl h11).trans <|
    (runs_stps (q' := (4, [.ref 11, .int x1, .int (((2 * x2) + 1) + 1), .int (x3 + 1), .int (((2 * x2) + 1) + 1)], [], w6)) 4 rfl).trans <|
    rfl
theorem p_X6_sink_4FFFFF_R {ex : Ex} {x1 : Int32} {x2 : Int32} {x3 : Int32} {v4 : Value} {r1 : Int32} {w1 : Wd} {r2 : Int32} {w2 : Wd} {r3 : Int32} {w3 : Wd} {r4 : Int32} {w4 : Wd} {w5 : Wd} {w : Wd} (h1 : ¬ 32 ≤ x3) (h2 : ¬ (w.1 11 3) ≤ ((2 * x2) + 1)) (h3 : ¬ (w.1 11 3) ≤ (((2 * x2) + 1) + 1)) (h4 : ex 89 [.ref 11, .int (((2 * x2) + 1) + 1)] w = some (some (.int r1), w1)) (h5 : ex 89 [.ref 11, .int ((2 * x2) + 1)] w1 = some (some (.int r2), w2)) (h6 : ¬ r2 ≤ r1) (h7 : ex 89 [.ref 11, .int (((2 * x2) + 1) + 1)] w2 = some (some (.int r3), w3)) (h8 : ex 133 [.ref 12, .int x1] w3 = some (some (.int r4), w4)) (h9 : ¬ r3 < r4) (h10 : ex 90 [.ref 11, .int x1, .int x2] w4 = some (none, w5)) : runs (T_X6_sink ex) (4, [.ref 11, .int x1, .int x2, .int x3, v4], [], w) = some (none, w5) := 
    (runs_stps (q' := (7, [.ref 11, .int x1, .int x2, .int x3, .null], [.int 32, .int x3], w)) 2 rfl).trans <|
    (runs_if_f (a := 103) (b := 10) (L := [.ref 11, .int x1, .int x2, .int x3, .null]) (st := []) (w := w) rfl h1).trans <|
    (runs_stps (q' := (19, [.ref 11, .int x1, .int x2, .int x3, .null], [.int (w.1 11 3), .int ((2 * x2) + 1)], w)) 7 rfl).trans <|
    (runs_if_f (a := 103) (b := 22) (L := [.ref 11, .int x1, .int x2, .int x3, .null]) (st := []) (w := w) rfl h2).trans <|
    (runs_stps (q' := (37, [.ref 11, .int x1, .int x2, .int x3, .int ((2 * x2) + 1)], [.int (w.1 11 3), .int (((2 * x2) + 1) + 1)], w)) 11 rfl).trans <|
    (runs_if_f (a := 60) (b := 40) (L := [.ref 11, .int x1, .int x2, .int x3, .int ((2 * x2) + 1)]) (st := []) (w := w) rfl h3).trans <|
    (runs_stps (q' := (45, [.ref 11, .int x1, .int x2, .int x3, .int ((2 * x2) + 1)], [.int (((2 * x2) + 1) + 1), .ref 11], w)) 4 rfl).trans <|
    (runs_callV (rv := some (.int r1)) (w' := w1) rfl rfl rfl rfl h4).trans <|
    (runs_stps (q' := (51, [.ref 11, .int x1, .int x2, .int x3, .int ((2 * x2) + 1)], [.int ((2 * x2) + 1), .ref 11, .int r1], w1)) 2 rfl).trans <|
    (runs_callV (rv := some (.int r2)) (w' := w2) rfl rfl rfl rfl h5).trans <|
    (runs_if_f (a := 60) (b := 57) (L := [.ref 11, .int x1, .int x2, .int x3, .int ((2 * x2) + 1)]) (st := []) (w := w2) rfl h6).trans <|
    (runs_stps (q' := (63, [.ref 11, .int x1, .int x2, .int x3, .int (((2 * x2) + 1) + 1)], [.int (((2 * x2) + 1) + 1), .ref 11], w2)) 3 rfl).trans <|
    (runs_callV (rv := some (.int r3)) (w' := w3) rfl rfl rfl rfl h7).trans <|
    (runs_stps (q' := (71, [.ref 11, .int x1, .int x2, .int x3, .int (((2 * x2) + 1) + 1)], [.int x1, .ref 12, .int r3], w3)) 3 rfl).trans <|
    (runs_callS (rv := some (.int r4)) (w' := w4) rfl rfl rfl h8).trans <|
    (runs_if_f (a := 80) (b := 77) (L := [.ref 11, .int x1, .int x2, .int x3, .int (((2 * x2) + 1) + 1)]) (st := []) (w := w4) rfl h9).trans <|
    (runs_stps (q' := (106, [.ref 11, .int x1, .int x2, .null, .null], [.int x2, .int x1, .ref 11], w4)) 4 rfl).trans <|
    (runs_callV (rv := none) (w' := w5) rfl rfl rfl rfl h10).trans <|
    runs_ret rfl
theorem p_X6_labelAt_0_R {ex : Ex} {x1 : Int32} {r1 : Int32} {w1 : Wd} {r2 : Int32} {w2 : Wd} {w : Wd} (h1 : ex 133 [.ref 13, .int x1] w = some (some (.int r1), w1)) (h2 : ex 133 [.ref 12, .int r1] w1 = some (some (.int r2), w2)) : runs (T_X6_labelAt ex) (0, [.ref 11, .int x1], [], w) = some (some (.int r2), w2) := 
    (runs_stps (q' := (9, [.ref 11, .int x1], [.int x1, .ref 13, .ref 12], w)) 5 rfl).trans <|
    (runs_callS (rv := some (.int r1)) (w' := w1) rfl rfl rfl h1).trans <|
    (runs_callS (rv := some (.int r2)) (w' := w2) rfl rfl rfl h2).trans <|
    runs_ret rfl
theorem p_X6_sit_0_R {ex : Ex} {x1 : Int32} {x2 : Int32} {w1 : Wd} {w2 : Wd} {w : Wd} (h1 : ex 134 [.ref 13, .int x2, .int x1] w = some (none, w1)) (h2 : ex 134 [.ref 14, .int x1, .int x2] w1 = some (none, w2)) : runs (T_X6_sit ex) (0, [.ref 11, .int x1, .int x2], [], w) = some (none, w2) := 
    (runs_stps (q' := (6, [.ref 11, .int x1, .int x2], [.int x1, .int x2, .ref 13], w)) 4 rfl).trans <|
    (runs_callS (rv := none) (w' := w1) rfl rfl rfl h1).trans <|
    (runs_stps (q' := (15, [.ref 11, .int x1, .int x2], [.int x2, .int x1, .ref 14], w1)) 4 rfl).trans <|
    (runs_callS (rv := none) (w' := w2) rfl rfl rfl h2).trans <|
    runs_ret rfl
theorem p_X7_startAs_0_L2 {ex : Ex} {p : Nat} {w : Wd} (hp : scp p) : runs (T_X7_startAs ex) (0, [.ref 4, .ref p, .null], [], w) = runs (T_X7_startAs ex) (2, [.ref 4, .ref p, .int 0], [], w) := by
  rcases hp with rfl | rfl
  · exact (runs_stps (q' := (2, [.ref 4, .ref 20, .int 0], [], w)) 2 rfl).trans <|
    rfl
  · exact (runs_stps (q' := (2, [.ref 4, .ref 27, .int 0], [], w)) 2 rfl).trans <|
    rfl
theorem p_X7_startAs_2T_R {ex : Ex} {p : Nat} {x2 : Int32} {w : Wd} (hp : scp p) (h1 : 4 ≤ x2) : runs (T_X7_startAs ex) (2, [.ref 4, .ref p, .int x2], [], w) = some (none, updI (updI (updI w 4 1 0) 4 5 0) 4 9 0) := by
  rcases hp with rfl | rfl
  · exact (runs_stps (q' := (4, [.ref 4, .ref 20, .int x2], [.int 4, .int x2], w)) 2 rfl).trans <|
    (runs_if_t (a := 26) (b := 7) (L := [.ref 4, .ref 20, .int x2]) (st := []) (w := w) rfl h1).trans <|
    (runs_stps (q' := (41, [.ref 4, .null, .null], [], updI (updI (updI w 4 1 0) 4 5 0) 4 9 0)) 9 rfl).trans <|
    runs_ret rfl
  · exact (runs_stps (q' := (4, [.ref 4, .ref 27, .int x2], [.int 4, .int x2], w)) 2 rfl).trans <|
    (runs_if_t (a := 26) (b := 7) (L := [.ref 4, .ref 27, .int x2]) (st := []) (w := w) rfl h1).trans <|
    (runs_stps (q' := (41, [.ref 4, .null, .null], [], updI (updI (updI w 4 1 0) 4 5 0) 4 9 0)) 9 rfl).trans <|
    runs_ret rfl
theorem p_X7_startAs_2F_L2 {ex : Ex} {p : Nat} {x2 : Int32} {r1 : Int32} {w1 : Wd} {w2 : Wd} {w : Wd} (hp : scp p) (h1 : ¬ 4 ≤ x2) (h2 : ex 67 [.ref p, .int x2] w = some (some (.int r1), w1)) (h3 : ex 134 [.ref 5, .int x2, .int r1] w1 = some (none, w2)) : runs (T_X7_startAs ex) (2, [.ref 4, .ref p, .int x2], [], w) = runs (T_X7_startAs ex) (2, [.ref 4, .ref p, .int (x2 + 1)], [], w2) := by
  rcases hp with rfl | rfl
  · exact (runs_stps (q' := (4, [.ref 4, .ref 20, .int x2], [.int 4, .int x2], w)) 2 rfl).trans <|
    (runs_if_f (a := 26) (b := 7) (L := [.ref 4, .ref 20, .int x2]) (st := []) (w := w) rfl h1).trans <|
    (runs_stps (q' := (14, [.ref 4, .ref 20, .int x2], [.int x2, .ref 20, .int x2, .ref 5], w)) 5 rfl).trans <|
    (runs_callV (rv := some (.int r1)) (w' := w1) rfl rfl rfl rfl h2).trans <|
    (runs_callS (rv := none) (w' := w2) rfl rfl rfl h3).trans <|
    (runs_stps (q' := (2, [.ref 4, .ref 20, .int (x2 + 1)], [], w2)) 2 rfl).trans <|
    rfl
  · exact (runs_stps (q' := (4, [.ref 4, .ref 27, .int x2], [.int 4, .int x2], w)) 2 rfl).trans <|
    (runs_if_f (a := 26) (b := 7) (L := [.ref 4, .ref 27, .int x2]) (st := []) (w := w) rfl h1).trans <|
    (runs_stps (q' := (14, [.ref 4, .ref 27, .int x2], [.int x2, .ref 27, .int x2, .ref 5], w)) 5 rfl).trans <|
    (runs_callV (rv := some (.int r1)) (w' := w1) rfl rfl rfl rfl h2).trans <|
    (runs_callS (rv := none) (w' := w2) rfl rfl rfl h3).trans <|
    (runs_stps (q' := (2, [.ref 4, .ref 27, .int (x2 + 1)], [], w2)) 2 rfl).trans <|
    rfl
theorem p_X7_rowOf_0_R {ex : Ex} {x1 : Int32} {r1 : Int32} {w1 : Wd} {w : Wd} (h1 : ex 133 [.ref 5, .int x1] w = some (some (.int r1), w1)) : runs (T_X7_rowOf ex) (0, [.ref 4, .int x1], [], w) = some (some (.int r1), w1) := 
    (runs_stps (q' := (5, [.ref 4, .int x1], [.int x1, .ref 5], w)) 3 rfl).trans <|
    (runs_callS (rv := some (.int r1)) (w' := w1) rfl rfl rfl h1).trans <|
    runs_ret rfl
theorem p_X7_spent_0_R {ex : Ex} {w : Wd} : runs (T_X7_spent ex) (0, [.ref 4], [], w) = some (some (.int (w.1 4 1)), w) := 
    (runs_stps (q' := (4, [.ref 4], [.int (w.1 4 1)], w)) 2 rfl).trans <|
    runs_ret rfl
theorem p_X7_known_0_R {ex : Ex} {w : Wd} : runs (T_X7_known ex) (0, [.ref 4], [], w) = some (some (.int (w.1 4 5)), w) := 
    (runs_stps (q' := (4, [.ref 4], [.int (w.1 4 5)], w)) 2 rfl).trans <|
    runs_ret rfl
theorem p_X7_change_0_R {ex : Ex} {x1 : Int32} {x2 : Int32} {x3 : Int32} {w1 : Wd} {r2 : Int32} {w2 : Wd} {w3 : Wd} {w4 : Wd} {w5 : Wd} {w : Wd} (h1 : ex 134 [.ref 6, .int (w.1 4 6), .int x1] w = some (none, w1)) (h2 : ex 92 [.ref 4, .int x1] w1 = some (some (.int r2), w2)) (h3 : ex 134 [.ref 7, .int (w1.1 4 6), .int r2] w2 = some (none, w3)) (h4 : ex 134 [.ref 8, .int (w3.1 4 6), .int (w3.1 4 1)] w3 = some (none, w4)) (h5 : ex 134 [.ref 5, .int x1, .int x2] (updI (updI w4 4 6 (((w4.1 4 6) + 1) - ((w4.1 4 6) + 1) / 12 * 12)) 4 5 (if 12 < ((w4.1 4 5) + 1) then 12 else ((w4.1 4 5) + 1))) = some (none, w5)) : runs (T_X7_change ex) (0, [.ref 4, .int x1, .int x2, .int x3], [], w) = some (none, updI w5 4 1 ((w5.1 4 1) + x3)) := 
    (runs_stps (q' := (9, [.ref 4, .int x1, .int x2, .int x3], [.int x1, .int (w.1 4 6), .ref 6], w)) 5 rfl).trans <|
    (runs_callS (rv := none) (w' := w1) rfl rfl rfl h1).trans <|
    (runs_stps (q' := (22, [.ref 4, .int x1, .int x2, .int x3], [.int x1, .ref 4, .int (w1.1 4 6), .ref 7], w1)) 6 rfl).trans <|
    (runs_callV (rv := some (.int r2)) (w' := w2) rfl rfl rfl rfl h2).trans <|
    (runs_callS (rv := none) (w' := w3) rfl rfl rfl h3).trans <|
    (runs_stps (q' := (40, [.ref 4, .int x1, .int x2, .int x3], [.int (w3.1 4 1), .int (w3.1 4 6), .ref 8], w3)) 6 rfl).trans <|
    (runs_callS (rv := none) (w' := w4) rfl rfl rfl h4).trans <|
    (runs_stps (q' := (77, [.ref 4, .int x1, .int x2, .int x3], [.int x2, .int x1, .ref 5], updI (updI w4 4 6 (((w4.1 4 6) + 1) - ((w4.1 4 6) + 1) / 12 * 12)) 4 5 (if 12 < ((w4.1 4 5) + 1) then 12 else ((w4.1 4 5) + 1)))) 20 rfl).trans <|
    (runs_callS (rv := none) (w' := w5) rfl rfl rfl h5).trans <|
    (runs_stps (q' := (90, [.ref 4, .int x1, .int x2, .int x3], [], updI w5 4 1 ((w5.1 4 1) + x3))) 6 rfl).trans <|
    runs_ret rfl
theorem p_X7_takeBack_0T_R {ex : Ex} {r1 : Int32} {w1 : Wd} {r2 : Int32} {w2 : Wd} {w3 : Wd} {r4 : Int32} {w4 : Wd} {w : Wd} (h1 : ¬ (w.1 4 5) = 0) (h2 : ex 133 [.ref 6, .int ((((w.1 4 6) + 12) - 1) - (((w.1 4 6) + 12) - 1) / 12 * 12)] (updI (updI w 4 5 ((w.1 4 5) - 1)) 4 6 ((((w.1 4 6) + 12) - 1) - (((w.1 4 6) + 12) - 1) / 12 * 12)) = some (some (.int r1), w1)) (h3 : ex 133 [.ref 7, .int (w1.1 4 6)] w1 = some (some (.int r2), w2)) (h4 : ex 134 [.ref 5, .int r1, .int r2] w2 = some (none, w3)) (h5 : ex 133 [.ref 8, .int (w3.1 4 6)] w3 = some (some (.int r4), w4)) : runs (T_X7_takeBack ex) (0, [.ref 4], [], w) = some (some (.int 1), updI w4 4 1 r4) := 
    (runs_stps (q' := (4, [.ref 4], [.int (w.1 4 5)], w)) 2 rfl).trans <|
    (runs_if_f (a := 7) (b := 9) (L := [.ref 4]) (st := []) (w := w) rfl h1).trans <|
    (runs_stps (q' := (47, [.ref 4], [.int ((((w.1 4 6) + 12) - 1) - (((w.1 4 6) + 12) - 1) / 12 * 12), .ref 6, .ref 5], updI (updI w 4 5 ((w.1 4 5) - 1)) 4 6 ((((w.1 4 6) + 12) - 1) - (((w.1 4 6) + 12) - 1) / 12 * 12))) 22 rfl).trans <|
    (runs_callS (rv := some (.int r1)) (w' := w1) rfl rfl rfl h2).trans <|
    (runs_stps (q' := (58, [.ref 4], [.int (w1.1 4 6), .ref 7, .int r1, .ref 5], w1)) 4 rfl).trans <|
    (runs_callS (rv := some (.int r2)) (w' := w2) rfl rfl rfl h3).trans <|
    (runs_callS (rv := none) (w' := w3) rfl rfl rfl h4).trans <|
    (runs_stps (q' := (73, [.ref 4], [.int (w3.1 4 6), .ref 8, .ref 4], w3)) 5 rfl).trans <|
    (runs_callS (rv := some (.int r4)) (w' := w4) rfl rfl rfl h5).trans <|
    (runs_stps (q' := (80, [.ref 4], [.int 1], updI w4 4 1 r4)) 2 rfl).trans <|
    runs_ret rfl
theorem p_X7_takeBack_0F_R {ex : Ex} {w : Wd} (h1 : (w.1 4 5) = 0) : runs (T_X7_takeBack ex) (0, [.ref 4], [], w) = some (some (.int 0), w) := 
    (runs_stps (q' := (4, [.ref 4], [.int (w.1 4 5)], w)) 2 rfl).trans <|
    (runs_if_t (a := 7) (b := 9) (L := [.ref 4]) (st := []) (w := w) rfl h1).trans <|
    (runs_stps (q' := (8, [.ref 4], [.int 0], w)) 1 rfl).trans <|
    runs_ret rfl
theorem p_X7_humming_0_L4 {ex : Ex} {p : Nat} {w : Wd} (hp : scp p) : runs (T_X7_humming ex) (0, [.ref 4, .ref p, .null, .null], [], w) = runs (T_X7_humming ex) (4, [.ref 4, .ref p, .int 0, .int 0], [], w) := by
  rcases hp with rfl | rfl
  · exact (runs_stps (q' := (4, [.ref 4, .ref 20, .int 0, .int 0], [], w)) 4 rfl).trans <|
    rfl
  · exact (runs_stps (q' := (4, [.ref 4, .ref 27, .int 0, .int 0], [], w)) 4 rfl).trans <|
    rfl
theorem p_X7_humming_4T_R {ex : Ex} {p : Nat} {x2 : Int32} {x3 : Int32} {r1 : Int32} {w1 : Wd} {w : Wd} (hp : scp p) (h1 : ex 54 [.ref p] w = some (some (.int r1), w1)) (h2 : r1 ≤ x3) : runs (T_X7_humming ex) (4, [.ref 4, .ref p, .int x2, .int x3], [], w) = some (some (.int x2), w1) := by
  rcases hp with rfl | rfl
  · exact (runs_stps (q' := (6, [.ref 4, .ref 20, .int x2, .int x3], [.ref 20, .int x3], w)) 2 rfl).trans <|
    (runs_callV (rv := some (.int r1)) (w' := w1) rfl rfl rfl rfl h1).trans <|
    (runs_if_t (a := 36) (b := 12) (L := [.ref 4, .ref 20, .int x2, .int x3]) (st := []) (w := w1) rfl h2).trans <|
    (runs_stps (q' := (37, [.null, .null, .int x2, .null], [.int x2], w1)) 1 rfl).trans <|
    runs_ret rfl
  · exact (runs_stps (q' := (6, [.ref 4, .ref 27, .int x2, .int x3], [.ref 27, .int x3], w)) 2 rfl).trans <|
    (runs_callV (rv := some (.int r1)) (w' := w1) rfl rfl rfl rfl h1).trans <|
    (runs_if_t (a := 36) (b := 12) (L := [.ref 4, .ref 27, .int x2, .int x3]) (st := []) (w := w1) rfl h2).trans <|
    (runs_stps (q' := (37, [.null, .null, .int x2, .null], [.int x2], w1)) 1 rfl).trans <|
    runs_ret rfl
theorem p_X7_humming_4FT_L4 {ex : Ex} {p : Nat} {x2 : Int32} {x3 : Int32} {r1 : Int32} {w1 : Wd} {r2 : Int32} {w2 : Wd} {r3 : Int32} {w3 : Wd} {w : Wd} (hp : scp p) (h1 : ex 54 [.ref p] w = some (some (.int r1), w1)) (h2 : ¬ r1 ≤ x3) (h3 : ex 92 [.ref 4, .int x3] w1 = some (some (.int r2), w2)) (h4 : ex 73 [.ref p, .int r2] w2 = some (some (.int r3), w3)) (h5 : r3 = 0) : runs (T_X7_humming ex) (4, [.ref 4, .ref p, .int x2, .int x3], [], w) = runs (T_X7_humming ex) (4, [.ref 4, .ref p, .int x2, .int (x3 + 1)], [], w3) := by
  rcases hp with rfl | rfl
  · exact (runs_stps (q' := (6, [.ref 4, .ref 20, .int x2, .int x3], [.ref 20, .int x3], w)) 2 rfl).trans <|
    (runs_callV (rv := some (.int r1)) (w' := w1) rfl rfl rfl rfl h1).trans <|
    (runs_if_f (a := 36) (b := 12) (L := [.ref 4, .ref 20, .int x2, .int x3]) (st := []) (w := w1) rfl h2).trans <|
    (runs_stps (q' := (15, [.ref 4, .ref 20, .int x2, .int x3], [.int x3, .ref 4, .ref 20], w1)) 3 rfl).trans <|
    (runs_callV (rv := some (.int r2)) (w' := w2) rfl rfl rfl rfl h3).trans <|
    (runs_callV (rv := some (.int r3)) (w' := w3) rfl rfl rfl rfl h4).trans <|
    (runs_if_t (a := 30) (b := 24) (L := [.ref 4, .ref 20, .int x2, .int x3]) (st := []) (w := w3) rfl h5).trans <|
    (runs_stps (q' := (4, [.ref 4, .ref 20, .int x2, .int (x3 + 1)], [], w3)) 2 rfl).trans <|
    rfl
  · exact (runs_stps (q' := (6, [.ref 4, .ref 27, .int x2, .int x3], [.ref 27, .int x3], w)) 2 rfl).trans <|
    (runs_callV (rv := some (.int r1)) (w' := w1) rfl rfl rfl rfl h1).trans <|
    (runs_if_f (a := 36) (b := 12) (L := [.ref 4, .ref 27, .int x2, .int x3]) (st := []) (w := w1) rfl h2).trans <|
    (runs_stps (q' := (15, [.ref 4, .ref 27, .int x2, .int x3], [.int x3, .ref 4, .ref 27], w1)) 3 rfl).trans <|
    (runs_callV (rv := some (.int r2)) (w' := w2) rfl rfl rfl rfl h3).trans <|
    (runs_callV (rv := some (.int r3)) (w' := w3) rfl rfl rfl rfl h4).trans <|
    (runs_if_t (a := 30) (b := 24) (L := [.ref 4, .ref 27, .int x2, .int x3]) (st := []) (w := w3) rfl h5).trans <|
    (runs_stps (q' := (4, [.ref 4, .ref 27, .int x2, .int (x3 + 1)], [], w3)) 2 rfl).trans <|
    rfl
theorem p_X7_humming_4FF_L4 {ex : Ex} {p : Nat} {x2 : Int32} {x3 : Int32} {r1 : Int32} {w1 : Wd} {r2 : Int32} {w2 : Wd} {r3 : Int32} {w3 : Wd} {w : Wd} (hp : scp p) (h1 : ex 54 [.ref p] w = some (some (.int r1), w1)) (h2 : ¬ r1 ≤ x3) (h3 : ex 92 [.ref 4, .int x3] w1 = some (some (.int r2), w2)) (h4 : ex 73 [.ref p, .int r2] w2 = some (some (.int r3), w3)) (h5 : ¬ r3 = 0) : runs (T_X7_humming ex) (4, [.ref 4, .ref p, .int x2, .int x3], [], w) = runs (T_X7_humming ex) (4, [.ref 4, .ref p, .int (x2 ||| (1 <<< (x3 &&& 31))), .int (x3 + 1)], [], w3) := by
  rcases hp with rfl | rfl
  · exact (runs_stps (q' := (6, [.ref 4, .ref 20, .int x2, .int x3], [.ref 20, .int x3], w)) 2 rfl).trans <|
    (runs_callV (rv := some (.int r1)) (w' := w1) rfl rfl rfl rfl h1).trans <|
    (runs_if_f (a := 36) (b := 12) (L := [.ref 4, .ref 20, .int x2, .int x3]) (st := []) (w := w1) rfl h2).trans <|
    (runs_stps (q' := (15, [.ref 4, .ref 20, .int x2, .int x3], [.int x3, .ref 4, .ref 20], w1)) 3 rfl).trans <|
    (runs_callV (rv := some (.int r2)) (w' := w2) rfl rfl rfl rfl h3).trans <|
    (runs_callV (rv := some (.int r3)) (w' := w3) rfl rfl rfl rfl h4).trans <|
    (runs_if_f (a := 30) (b := 24) (L := [.ref 4, .ref 20, .int x2, .int x3]) (st := []) (w := w3) rfl h5).trans <|
    (runs_stps (q' := (4, [.ref 4, .ref 20, .int (x2 ||| (1 <<< (x3 &&& 31))), .int (x3 + 1)], [], w3)) 8 rfl).trans <|
    rfl
  · exact (runs_stps (q' := (6, [.ref 4, .ref 27, .int x2, .int x3], [.ref 27, .int x3], w)) 2 rfl).trans <|
    (runs_callV (rv := some (.int r1)) (w' := w1) rfl rfl rfl rfl h1).trans <|
    (runs_if_f (a := 36) (b := 12) (L := [.ref 4, .ref 27, .int x2, .int x3]) (st := []) (w := w1) rfl h2).trans <|
    (runs_stps (q' := (15, [.ref 4, .ref 27, .int x2, .int x3], [.int x3, .ref 4, .ref 27], w1)) 3 rfl).trans <|
    (runs_callV (rv := some (.int r2)) (w' := w2) rfl rfl rfl rfl h3).trans <|
    (runs_callV (rv := some (.int r3)) (w' := w3) rfl rfl rfl rfl h4).trans <|
    (runs_if_f (a := 30) (b := 24) (L := [.ref 4, .ref 27, .int x2, .int x3]) (st := []) (w := w3) rfl h5).trans <|
    (runs_stps (q' := (4, [.ref 4, .ref 27, .int (x2 ||| (1 <<< (x3 &&& 31))), .int (x3 + 1)], [], w3)) 8 rfl).trans <|
    rfl
theorem p_X7_layers_0_L4 {ex : Ex} {w : Wd} : runs (T_X7_layers ex) (0, [.ref 4, .null, .null], [], w) = runs (T_X7_layers ex) (4, [.ref 4, .int 0, .int 0], [], w) := 
    (runs_stps (q' := (4, [.ref 4, .int 0, .int 0], [], w)) 4 rfl).trans <|
    rfl
theorem p_X7_layers_4T_R {ex : Ex} {x1 : Int32} {x2 : Int32} {w : Wd} (h1 : 4 ≤ x2) : runs (T_X7_layers ex) (4, [.ref 4, .int x1, .int x2], [], w) = some (some (.int x1), w) := 
    (runs_stps (q' := (6, [.ref 4, .int x1, .int x2], [.int 4, .int x2], w)) 2 rfl).trans <|
    (runs_if_t (a := 26) (b := 9) (L := [.ref 4, .int x1, .int x2]) (st := []) (w := w) rfl h1).trans <|
    (runs_stps (q' := (27, [.null, .int x1, .null], [.int x1], w)) 1 rfl).trans <|
    runs_ret rfl
theorem p_X7_layers_4F_L4 {ex : Ex} {x1 : Int32} {x2 : Int32} {r1 : Int32} {w1 : Wd} {r2 : Int32} {w2 : Wd} {w : Wd} (h1 : ¬ 4 ≤ x2) (h2 : ex 92 [.ref 4, .int x2] w = some (some (.int r1), w1)) (h3 : ex 45 [.int r1] w1 = some (some (.int r2), w2)) : runs (T_X7_layers ex) (4, [.ref 4, .int x1, .int x2], [], w) = runs (T_X7_layers ex) (4, [.ref 4, .int (x1 + r2), .int (x2 + 1)], [], w2) := 
    (runs_stps (q' := (6, [.ref 4, .int x1, .int x2], [.int 4, .int x2], w)) 2 rfl).trans <|
    (runs_if_f (a := 26) (b := 9) (L := [.ref 4, .int x1, .int x2]) (st := []) (w := w) rfl h1).trans <|
    (runs_stps (q' := (12, [.ref 4, .int x1, .int x2], [.int x2, .ref 4, .int x1], w)) 3 rfl).trans <|
    (runs_callV (rv := some (.int r1)) (w' := w1) rfl rfl rfl rfl h2).trans <|
    (runs_callS (rv := some (.int r2)) (w' := w2) rfl rfl rfl h3).trans <|
    (runs_stps (q' := (4, [.ref 4, .int (x1 + r2), .int (x2 + 1)], [], w2)) 4 rfl).trans <|
    rfl
theorem p_X7_layersWith_0_L4 {ex : Ex} {x1 : Int32} {w : Wd} : runs (T_X7_layersWith ex) (0, [.ref 4, .int x1, .null, .null, .null], [], w) = runs (T_X7_layersWith ex) (4, [.ref 4, .int x1, .int 0, .int 0, .null], [], w) := 
    (runs_stps (q' := (4, [.ref 4, .int x1, .int 0, .int 0, .null], [], w)) 4 rfl).trans <|
    rfl
theorem p_X7_layersWith_4T_R {ex : Ex} {x1 : Int32} {x2 : Int32} {x3 : Int32} {v4 : Value} {w : Wd} (h1 : 4 ≤ x3) : runs (T_X7_layersWith ex) (4, [.ref 4, .int x1, .int x2, .int x3, v4], [], w) = some (some (.int x2), w) := 
    (runs_stps (q' := (6, [.ref 4, .int x1, .int x2, .int x3, .null], [.int 4, .int x3], w)) 2 rfl).trans <|
    (runs_if_t (a := 52) (b := 9) (L := [.ref 4, .int x1, .int x2, .int x3, .null]) (st := []) (w := w) rfl h1).trans <|
    (runs_stps (q' := (53, [.null, .null, .int x2, .null, .null], [.int x2], w)) 1 rfl).trans <|
    runs_ret rfl
theorem p_X7_layersWith_4F_L12 {ex : Ex} {x1 : Int32} {x2 : Int32} {x3 : Int32} {v4 : Value} {w : Wd} (h1 : ¬ 4 ≤ x3) : runs (T_X7_layersWith ex) (4, [.ref 4, .int x1, .int x2, .int x3, v4], [], w) = runs (T_X7_layersWith ex) (12, [.ref 4, .int x1, .int x2, .int x3, .int 0], [], w) := 
    (runs_stps (q' := (6, [.ref 4, .int x1, .int x2, .int x3, .null], [.int 4, .int x3], w)) 2 rfl).trans <|
    (runs_if_f (a := 52) (b := 9) (L := [.ref 4, .int x1, .int x2, .int x3, .null]) (st := []) (w := w) rfl h1).trans <|
    (runs_stps (q' := (12, [.ref 4, .int x1, .int x2, .int x3, .int 0], [], w)) 2 rfl).trans <|
    rfl
theorem p_X7_layersWith_12T_L4 {ex : Ex} {x1 : Int32} {x2 : Int32} {x3 : Int32} {x4 : Int32} {w : Wd} (h1 : 5 ≤ x4) : runs (T_X7_layersWith ex) (12, [.ref 4, .int x1, .int x2, .int x3, .int x4], [], w) = runs (T_X7_layersWith ex) (4, [.ref 4, .int x1, .int x2, .int (x3 + 1), .null], [], w) := 
    (runs_stps (q' := (15, [.ref 4, .int x1, .int x2, .int x3, .int x4], [.int 5, .int x4], w)) 2 rfl).trans <|
    (runs_if_t (a := 46) (b := 18) (L := [.ref 4, .int x1, .int x2, .int x3, .int x4]) (st := []) (w := w) rfl h1).trans <|
    (runs_stps (q' := (4, [.ref 4, .int x1, .int x2, .int (x3 + 1), .null], [], w)) 2 rfl).trans <|
    rfl
theorem p_X7_layersWith_12FT_L12 {ex : Ex} {x1 : Int32} {x2 : Int32} {x3 : Int32} {x4 : Int32} {r1 : Int32} {w1 : Wd} {r2 : Int32} {w2 : Wd} {w : Wd} (h1 : ¬ 5 ≤ x4) (h2 : ex 92 [.ref 4, .int x3] w = some (some (.int r1), w1)) (h3 : ex 43 [.int r1, .int x4] w1 = some (some (.int r2), w2)) (h4 : ¬ r2 = x1) : runs (T_X7_layersWith ex) (12, [.ref 4, .int x1, .int x2, .int x3, .int x4], [], w) = runs (T_X7_layersWith ex) (12, [.ref 4, .int x1, .int (x2 + 0), .int x3, .int (x4 + 1)], [], w2) := 
    (runs_stps (q' := (15, [.ref 4, .int x1, .int x2, .int x3, .int x4], [.int 5, .int x4], w)) 2 rfl).trans <|
    (runs_if_f (a := 46) (b := 18) (L := [.ref 4, .int x1, .int x2, .int x3, .int x4]) (st := []) (w := w) rfl h1).trans <|
    (runs_stps (q' := (21, [.ref 4, .int x1, .int x2, .int x3, .int x4], [.int x3, .ref 4, .int x2], w)) 3 rfl).trans <|
    (runs_callV (rv := some (.int r1)) (w' := w1) rfl rfl rfl rfl h2).trans <|
    (runs_stps (q' := (26, [.ref 4, .int x1, .int x2, .int x3, .int x4], [.int x4, .int r1, .int x2], w1)) 1 rfl).trans <|
    (runs_callS (rv := some (.int r2)) (w' := w2) rfl rfl rfl h3).trans <|
    (runs_stps (q' := (30, [.ref 4, .int x1, .int x2, .int x3, .int x4], [.int x1, .int r2, .int x2], w2)) 1 rfl).trans <|
    (runs_if_f (a := 33) (b := 37) (L := [.ref 4, .int x1, .int x2, .int x3, .int x4]) (st := [.int x2]) (w := w2) rfl h4).trans <|
    (runs_stps (q' := (12, [.ref 4, .int x1, .int (x2 + 0), .int x3, .int (x4 + 1)], [], w2)) 5 rfl).trans <|
    rfl
theorem p_X7_layersWith_12FF_L12 {ex : Ex} {x1 : Int32} {x2 : Int32} {x3 : Int32} {x4 : Int32} {r1 : Int32} {w1 : Wd} {r2 : Int32} {w2 : Wd} {w : Wd} (h1 : ¬ 5 ≤ x4) (h2 : ex 92 [.ref 4, .int x3] w = some (some (.int r1), w1)) (h3 : ex 43 [.int r1, .int x4] w1 = some (some (.int r2), w2)) (h4 : r2 = x1) : runs (T_X7_layersWith ex) (12, [.ref 4, .int x1, .int x2, .int x3, .int x4], [], w) = runs (T_X7_layersWith ex) (12, [.ref 4, .int x1, .int (x2 + 1), .int x3, .int (x4 + 1)], [], w2) := 
    (runs_stps (q' := (15, [.ref 4, .int x1, .int x2, .int x3, .int x4], [.int 5, .int x4], w)) 2 rfl).trans <|
    (runs_if_f (a := 46) (b := 18) (L := [.ref 4, .int x1, .int x2, .int x3, .int x4]) (st := []) (w := w) rfl h1).trans <|
    (runs_stps (q' := (21, [.ref 4, .int x1, .int x2, .int x3, .int x4], [.int x3, .ref 4, .int x2], w)) 3 rfl).trans <|
    (runs_callV (rv := some (.int r1)) (w' := w1) rfl rfl rfl rfl h2).trans <|
    (runs_stps (q' := (26, [.ref 4, .int x1, .int x2, .int x3, .int x4], [.int x4, .int r1, .int x2], w1)) 1 rfl).trans <|
    (runs_callS (rv := some (.int r2)) (w' := w2) rfl rfl rfl h3).trans <|
    (runs_stps (q' := (30, [.ref 4, .int x1, .int x2, .int x3, .int x4], [.int x1, .int r2, .int x2], w2)) 1 rfl).trans <|
    (runs_if_t (a := 33) (b := 37) (L := [.ref 4, .int x1, .int x2, .int x3, .int x4]) (st := [.int x2]) (w := w2) rfl h4).trans <|
    (runs_stps (q' := (12, [.ref 4, .int x1, .int (x2 + 1), .int x3, .int (x4 + 1)], [], w2)) 6 rfl).trans <|
    rfl
theorem p_X7_keepImage_0_L2 {ex : Ex} {x1 : Int32} {w : Wd} : runs (T_X7_keepImage ex) (0, [.ref 4, .int x1, .null], [], w) = runs (T_X7_keepImage ex) (2, [.ref 4, .int x1, .int 0], [], w) := 
    (runs_stps (q' := (2, [.ref 4, .int x1, .int 0], [], w)) 2 rfl).trans <|
    rfl
theorem p_X7_keepImage_2T_R {ex : Ex} {x1 : Int32} {x2 : Int32} {w1 : Wd} {w : Wd} (h1 : 4 ≤ x2) (h2 : ex 134 [.ref 10, .int x1, .int (w.1 4 1)] w = some (none, w1)) : runs (T_X7_keepImage ex) (2, [.ref 4, .int x1, .int x2], [], w) = some (none, updI w1 4 9 ((w1.1 4 9) ||| (1 <<< (x1 &&& 31)))) := 
    (runs_stps (q' := (4, [.ref 4, .int x1, .int x2], [.int 4, .int x2], w)) 2 rfl).trans <|
    (runs_if_t (a := 30) (b := 7) (L := [.ref 4, .int x1, .int x2]) (st := []) (w := w) rfl h1).trans <|
    (runs_stps (q' := (39, [.ref 4, .int x1, .null], [.int (w.1 4 1), .int x1, .ref 10], w)) 5 rfl).trans <|
    (runs_callS (rv := none) (w' := w1) rfl rfl rfl h2).trans <|
    (runs_stps (q' := (54, [.ref 4, .int x1, .null], [], updI w1 4 9 ((w1.1 4 9) ||| (1 <<< (x1 &&& 31))))) 8 rfl).trans <|
    runs_ret rfl
theorem p_X7_keepImage_2F_L2 {ex : Ex} {x1 : Int32} {x2 : Int32} {r1 : Int32} {w1 : Wd} {w2 : Wd} {w : Wd} (h1 : ¬ 4 ≤ x2) (h2 : ex 92 [.ref 4, .int x2] w = some (some (.int r1), w1)) (h3 : ex 134 [.ref 9, .int ((x1 * 4) + x2), .int r1] w1 = some (none, w2)) : runs (T_X7_keepImage ex) (2, [.ref 4, .int x1, .int x2], [], w) = runs (T_X7_keepImage ex) (2, [.ref 4, .int x1, .int (x2 + 1)], [], w2) := 
    (runs_stps (q' := (4, [.ref 4, .int x1, .int x2], [.int 4, .int x2], w)) 2 rfl).trans <|
    (runs_if_f (a := 30) (b := 7) (L := [.ref 4, .int x1, .int x2]) (st := []) (w := w) rfl h1).trans <|
    (runs_stps (q' := (18, [.ref 4, .int x1, .int x2], [.int x2, .ref 4, .int ((x1 * 4) + x2), .ref 9], w)) 9 rfl).trans <|
    (runs_callV (rv := some (.int r1)) (w' := w1) rfl rfl rfl rfl h2).trans <|
    (runs_callS (rv := none) (w' := w2) rfl rfl rfl h3).trans <|
    (runs_stps (q' := (2, [.ref 4, .int x1, .int (x2 + 1)], [], w2)) 2 rfl).trans <|
    rfl
theorem p_X7_becomeImage_0T_L15 {ex : Ex} {x1 : Int32} {w : Wd} (h1 : ¬ (((w.1 4 9) >>> (x1 &&& 31)) &&& 1) = 0) : runs (T_X7_becomeImage ex) (0, [.ref 4, .int x1, .null], [], w) = runs (T_X7_becomeImage ex) (15, [.ref 4, .int x1, .int 0], [], w) := 
    (runs_stps (q' := (8, [.ref 4, .int x1, .null], [.int (((w.1 4 9) >>> (x1 &&& 31)) &&& 1)], w)) 6 rfl).trans <|
    (runs_if_f (a := 11) (b := 13) (L := [.ref 4, .int x1, .null]) (st := []) (w := w) rfl h1).trans <|
    (runs_stps (q' := (15, [.ref 4, .int x1, .int 0], [], w)) 2 rfl).trans <|
    rfl
theorem p_X7_becomeImage_0F_R {ex : Ex} {x1 : Int32} {w : Wd} (h1 : (((w.1 4 9) >>> (x1 &&& 31)) &&& 1) = 0) : runs (T_X7_becomeImage ex) (0, [.ref 4, .int x1, .null], [], w) = some (some (.int 0), w) := 
    (runs_stps (q' := (8, [.ref 4, .int x1, .null], [.int (((w.1 4 9) >>> (x1 &&& 31)) &&& 1)], w)) 6 rfl).trans <|
    (runs_if_t (a := 11) (b := 13) (L := [.ref 4, .int x1, .null]) (st := []) (w := w) rfl h1).trans <|
    (runs_stps (q' := (12, [.ref 4, .int x1, .null], [.int 0], w)) 1 rfl).trans <|
    runs_ret rfl
theorem p_X7_becomeImage_15T_R {ex : Ex} {x1 : Int32} {x2 : Int32} {r1 : Int32} {w1 : Wd} {w : Wd} (h1 : 4 ≤ x2) (h2 : ex 133 [.ref 10, .int x1] w = some (some (.int r1), w1)) : runs (T_X7_becomeImage ex) (15, [.ref 4, .int x1, .int x2], [], w) = some (some (.int 1), updI (updI w1 4 1 r1) 4 5 0) := 
    (runs_stps (q' := (17, [.ref 4, .int x1, .int x2], [.int 4, .int x2], w)) 2 rfl).trans <|
    (runs_if_t (a := 46) (b := 20) (L := [.ref 4, .int x1, .int x2]) (st := []) (w := w) rfl h1).trans <|
    (runs_stps (q' := (52, [.ref 4, .int x1, .null], [.int x1, .ref 10, .ref 4], w)) 4 rfl).trans <|
    (runs_callS (rv := some (.int r1)) (w' := w1) rfl rfl rfl h2).trans <|
    (runs_stps (q' := (64, [.ref 4, .int x1, .null], [.int 1], updI (updI w1 4 1 r1) 4 5 0)) 5 rfl).trans <|
    runs_ret rfl
theorem p_X7_becomeImage_15F_L15 {ex : Ex} {x1 : Int32} {x2 : Int32} {r1 : Int32} {w1 : Wd} {w2 : Wd} {w : Wd} (h1 : ¬ 4 ≤ x2) (h2 : ex 133 [.ref 9, .int ((x1 * 4) + x2)] w = some (some (.int r1), w1)) (h3 : ex 134 [.ref 5, .int x2, .int r1] w1 = some (none, w2)) : runs (T_X7_becomeImage ex) (15, [.ref 4, .int x1, .int x2], [], w) = runs (T_X7_becomeImage ex) (15, [.ref 4, .int x1, .int (x2 + 1)], [], w2) := 
    (runs_stps (q' := (17, [.ref 4, .int x1, .int x2], [.int 4, .int x2], w)) 2 rfl).trans <|
    (runs_if_f (a := 46) (b := 20) (L := [.ref 4, .int x1, .int x2]) (st := []) (w := w) rfl h1).trans <|
    (runs_stps (q' := (34, [.ref 4, .int x1, .int x2], [.int ((x1 * 4) + x2), .ref 9, .int x2, .ref 5], w)) 10 rfl).trans <|
    (runs_callS (rv := some (.int r1)) (w' := w1) rfl rfl rfl h2).trans <|
    (runs_callS (rv := none) (w' := w2) rfl rfl rfl h3).trans <|
    (runs_stps (q' := (15, [.ref 4, .int x1, .int (x2 + 1)], [], w2)) 2 rfl).trans <|
    rfl
theorem p_X8_type_0T_R {ex : Ex} {x1 : Int64} {x3 : Int32} {w : Wd} (h1 : x3 < 1) : runs (T_X8_type ex) (0, [.ref 0, .long x1, .null, .int x3, .null], [], w) = some (some (.int (-1)), w) := 
    (runs_stps (q' := (2, [.ref 0, .long x1, .null, .int x3, .null], [.int 1, .int x3], w)) 2 rfl).trans <|
    (runs_if_t (a := 11) (b := 5) (L := [.ref 0, .long x1, .null, .int x3, .null]) (st := []) (w := w) rfl h1).trans <|
    (runs_stps (q' := (12, [.null, .null, .null, .null, .null], [.int (-1)], w)) 1 rfl).trans <|
    runs_ret rfl
theorem p_X8_type_0FTT_L32 {ex : Ex} {x1 : Int64} {x3 : Int32} {r1 : Int32} {w1 : Wd} {w : Wd} (h1 : ¬ x3 < 1) (h2 : x3 ≤ 8) (h3 : ex 21 [.ref 1, .int x3] w = some (some (.int r1), w1)) (h4 : ¬ r1 = 0) : runs (T_X8_type ex) (0, [.ref 0, .long x1, .null, .int x3, .null], [], w) = runs (T_X8_type ex) (32, [.ref 0, .long x1, .null, .int x3, .int (x3 - 1)], [], w1) := 
    (runs_stps (q' := (2, [.ref 0, .long x1, .null, .int x3, .null], [.int 1, .int x3], w)) 2 rfl).trans <|
    (runs_if_f (a := 11) (b := 5) (L := [.ref 0, .long x1, .null, .int x3, .null]) (st := []) (w := w) rfl h1).trans <|
    (runs_stps (q' := (8, [.ref 0, .long x1, .null, .int x3, .null], [.int 8, .int x3], w)) 2 rfl).trans <|
    (runs_if_t (a := 13) (b := 11) (L := [.ref 0, .long x1, .null, .int x3, .null]) (st := []) (w := w) rfl h2).trans <|
    (runs_stps (q' := (18, [.ref 0, .long x1, .null, .int x3, .null], [.int x3, .ref 1], w)) 3 rfl).trans <|
    (runs_callV (rv := some (.int r1)) (w' := w1) rfl rfl rfl rfl h3).trans <|
    (runs_if_f (a := 24) (b := 27) (L := [.ref 0, .long x1, .null, .int x3, .null]) (st := []) (w := w1) rfl h4).trans <|
    (runs_stps (q' := (32, [.ref 0, .long x1, .null, .int x3, .int (x3 - 1)], [], w1)) 4 rfl).trans <|
    rfl
theorem p_X8_type_0FTF_R {ex : Ex} {x1 : Int64} {x3 : Int32} {r1 : Int32} {w1 : Wd} {w : Wd} (h1 : ¬ x3 < 1) (h2 : x3 ≤ 8) (h3 : ex 21 [.ref 1, .int x3] w = some (some (.int r1), w1)) (h4 : r1 = 0) : runs (T_X8_type ex) (0, [.ref 0, .long x1, .null, .int x3, .null], [], w) = some (some (.int (-3)), w1) := 
    (runs_stps (q' := (2, [.ref 0, .long x1, .null, .int x3, .null], [.int 1, .int x3], w)) 2 rfl).trans <|
    (runs_if_f (a := 11) (b := 5) (L := [.ref 0, .long x1, .null, .int x3, .null]) (st := []) (w := w) rfl h1).trans <|
    (runs_stps (q' := (8, [.ref 0, .long x1, .null, .int x3, .null], [.int 8, .int x3], w)) 2 rfl).trans <|
    (runs_if_t (a := 13) (b := 11) (L := [.ref 0, .long x1, .null, .int x3, .null]) (st := []) (w := w) rfl h2).trans <|
    (runs_stps (q' := (18, [.ref 0, .long x1, .null, .int x3, .null], [.int x3, .ref 1], w)) 3 rfl).trans <|
    (runs_callV (rv := some (.int r1)) (w' := w1) rfl rfl rfl rfl h3).trans <|
    (runs_if_t (a := 24) (b := 27) (L := [.ref 0, .long x1, .null, .int x3, .null]) (st := []) (w := w1) rfl h4).trans <|
    (runs_stps (q' := (26, [.ref 0, .long x1, .null, .int x3, .null], [.int (-3)], w1)) 1 rfl).trans <|
    runs_ret rfl
theorem p_X8_type_0FF_R {ex : Ex} {x1 : Int64} {x3 : Int32} {w : Wd} (h1 : ¬ x3 < 1) (h2 : ¬ x3 ≤ 8) : runs (T_X8_type ex) (0, [.ref 0, .long x1, .null, .int x3, .null], [], w) = some (some (.int (-1)), w) := 
    (runs_stps (q' := (2, [.ref 0, .long x1, .null, .int x3, .null], [.int 1, .int x3], w)) 2 rfl).trans <|
    (runs_if_f (a := 11) (b := 5) (L := [.ref 0, .long x1, .null, .int x3, .null]) (st := []) (w := w) rfl h1).trans <|
    (runs_stps (q' := (8, [.ref 0, .long x1, .null, .int x3, .null], [.int 8, .int x3], w)) 2 rfl).trans <|
    (runs_if_f (a := 13) (b := 11) (L := [.ref 0, .long x1, .null, .int x3, .null]) (st := []) (w := w) rfl h2).trans <|
    (runs_stps (q' := (12, [.null, .null, .null, .null, .null], [.int (-1)], w)) 1 rfl).trans <|
    runs_ret rfl
theorem p_X8_type_32T_R {ex : Ex} {x1 : Int64} {v3 : Value} {x4 : Int32} {r1 : Int32} {w1 : Wd} {w : Wd} (h1 : x4 < 0) (h2 : ex 19 [.ref 1] w = some (some (.int r1), w1)) : runs (T_X8_type ex) (32, [.ref 0, .long x1, .null, v3, .int x4], [], w) = some (some (.int r1), w1) := 
    (runs_stps (q' := (34, [.ref 0, .long x1, .null, .null, .int x4], [.int x4], w)) 1 rfl).trans <|
    (runs_if_t (a := 62) (b := 37) (L := [.ref 0, .long x1, .null, .null, .int x4]) (st := []) (w := w) rfl h1).trans <|
    (runs_stps (q' := (66, [.ref 0, .null, .null, .null, .null], [.ref 1], w)) 2 rfl).trans <|
    (runs_callV (rv := some (.int r1)) (w' := w1) rfl rfl rfl rfl h2).trans <|
    runs_ret rfl
theorem p_X8_type_32F_L32 {ex : Ex} {x1 : Int64} {v3 : Value} {x4 : Int32} {w1 : Wd} {w : Wd} (h1 : ¬ x4 < 0) (h2 : ex 22 [.ref 1, .int ((((x1.toUInt64 >>> ((8 * x4).toInt64.toUInt64 &&& Int64.toUInt64 63)).toInt64).toInt32) &&& 255)] w = some (none, w1)) : runs (T_X8_type ex) (32, [.ref 0, .long x1, .null, v3, .int x4], [], w) = runs (T_X8_type ex) (32, [.ref 0, .long x1, .null, .null, .int (x4 + (-1))], [], w1) := 
    (runs_stps (q' := (34, [.ref 0, .long x1, .null, .null, .int x4], [.int x4], w)) 1 rfl).trans <|
    (runs_if_f (a := 62) (b := 37) (L := [.ref 0, .long x1, .null, .null, .int x4]) (st := []) (w := w) rfl h1).trans <|
    (runs_stps (q' := (53, [.ref 0, .long x1, .null, .null, .int x4], [.int ((((x1.toUInt64 >>> ((8 * x4).toInt64.toUInt64 &&& Int64.toUInt64 63)).toInt64).toInt32) &&& 255), .ref 1], w)) 10 rfl).trans <|
    (runs_callV (rv := none) (w' := w1) rfl rfl rfl rfl h2).trans <|
    (runs_stps (q' := (32, [.ref 0, .long x1, .null, .null, .int (x4 + (-1))], [], w1)) 2 rfl).trans <|
    rfl
theorem p_X8_clear_0_R {ex : Ex} {r1 : Int32} {w1 : Wd} {w2 : Wd} {w : Wd} (h1 : ex 19 [.ref 1] w = some (some (.int r1), w1)) (h2 : ex 20 [.ref 1] w1 = some (none, w2)) : runs (T_X8_clear ex) (0, [.ref 0, .null], [], w) = some (some (.int r1), w2) := 
    (runs_stps (q' := (4, [.ref 0, .null], [.ref 1], w)) 2 rfl).trans <|
    (runs_callV (rv := some (.int r1)) (w' := w1) rfl rfl rfl rfl h1).trans <|
    (runs_stps (q' := (12, [.ref 0, .int r1], [.ref 1], w1)) 3 rfl).trans <|
    (runs_callV (rv := none) (w' := w2) rfl rfl rfl rfl h2).trans <|
    (runs_stps (q' := (16, [.ref 0, .int r1], [.int r1], w2)) 1 rfl).trans <|
    runs_ret rfl
theorem p_X8_school_0T_R {ex : Ex} {p : Nat} {r1 : Int32} {w1 : Wd} {w2 : Wd} {w3 : Wd} {w4 : Wd} {w : Wd} (hp : scp p) (h1 : w.1 0 6 = nI (47 - p)) (h2 : ex 23 [.ref 1, .ref (47 - p)] w = some (some (.int r1), w1)) (h3 : 0 ≤ r1) (h4 : w1.1 0 6 = nI (47 - p)) (h5 : w1.1 0 5 = nI p) (h6 : ex 91 [.ref 4, .ref (47 - p)] (updI (updI w1 0 6 (nI p)) 0 5 (nI (47 - p))) = some (none, w2)) (h7 : ex 3 [.ref 15] w2 = some (none, w3)) (h8 : ex 20 [.ref 1] w3 = some (none, w4)) : runs (T_X8_school ex) (0, [.ref 0, .null, .null], [], w) = some (some (.int r1), w4) := by
  rcases hp with rfl | rfl
  · exact (runs_stps (q' := (5, [.ref 0, .null, .null], [.ref 0, .ref 1], w)) 3 rfl).trans <|
    (runs_getD (pc := 8) (L := [.ref 0, .null, .null]) (st := [.ref 1]) (w := w) rfl h1 (by decide)).trans <|
    (runs_callV (rv := some (.int r1)) (w' := w1) rfl rfl rfl rfl h2).trans <|
    (runs_stps (q' := (13, [.ref 0, .int r1, .null], [.int r1], w1)) 2 rfl).trans <|
    (runs_if_t (a := 18) (b := 16) (L := [.ref 0, .int r1, .null]) (st := []) (w := w1) rfl h3).trans <|
    (runs_stps (q' := (19, [.ref 0, .int r1, .null], [.ref 0], w1)) 1 rfl).trans <|
    (runs_getD (pc := 22) (L := [.ref 0, .int r1, .null]) (st := []) (w := w1) rfl h4 (by decide)).trans <|
    (runs_stps (q' := (25, [.ref 0, .int r1, .ref (47 - 20)], [.ref 0, .ref 0], w1)) 3 rfl).trans <|
    (runs_getD (pc := 28) (L := [.ref 0, .int r1, .ref (47 - 20)]) (st := [.ref 0]) (w := w1) rfl h5 (by decide)).trans <|
    (runs_stps (q' := (41, [.ref 0, .int r1, .ref (47 - 20)], [.ref 0, .ref 4], updI (updI w1 0 6 (nI 20)) 0 5 (nI (47 - 20)))) 7 rfl).trans <|
    (runs_getD (pc := 44) (L := [.ref 0, .int r1, .ref (47 - 20)]) (st := [.ref 4]) (w := updI (updI w1 0 6 (nI 20)) 0 5 (nI (47 - 20))) rfl rfl (by decide)).trans <|
    (runs_callV (rv := none) (w' := w2) rfl rfl rfl rfl h6).trans <|
    (runs_stps (q' := (51, [.ref 0, .int r1, .ref (47 - 20)], [.ref 15], w2)) 2 rfl).trans <|
    (runs_callV (rv := none) (w' := w3) rfl rfl rfl rfl h7).trans <|
    (runs_stps (q' := (58, [.ref 0, .int r1, .ref (47 - 20)], [.ref 1], w3)) 2 rfl).trans <|
    (runs_callV (rv := none) (w' := w4) rfl rfl rfl rfl h8).trans <|
    (runs_stps (q' := (62, [.ref 0, .int r1, .ref (47 - 20)], [.int r1], w4)) 1 rfl).trans <|
    runs_ret rfl
  · exact (runs_stps (q' := (5, [.ref 0, .null, .null], [.ref 0, .ref 1], w)) 3 rfl).trans <|
    (runs_getD (pc := 8) (L := [.ref 0, .null, .null]) (st := [.ref 1]) (w := w) rfl h1 (by decide)).trans <|
    (runs_callV (rv := some (.int r1)) (w' := w1) rfl rfl rfl rfl h2).trans <|
    (runs_stps (q' := (13, [.ref 0, .int r1, .null], [.int r1], w1)) 2 rfl).trans <|
    (runs_if_t (a := 18) (b := 16) (L := [.ref 0, .int r1, .null]) (st := []) (w := w1) rfl h3).trans <|
    (runs_stps (q' := (19, [.ref 0, .int r1, .null], [.ref 0], w1)) 1 rfl).trans <|
    (runs_getD (pc := 22) (L := [.ref 0, .int r1, .null]) (st := []) (w := w1) rfl h4 (by decide)).trans <|
    (runs_stps (q' := (25, [.ref 0, .int r1, .ref (47 - 27)], [.ref 0, .ref 0], w1)) 3 rfl).trans <|
    (runs_getD (pc := 28) (L := [.ref 0, .int r1, .ref (47 - 27)]) (st := [.ref 0]) (w := w1) rfl h5 (by decide)).trans <|
    (runs_stps (q' := (41, [.ref 0, .int r1, .ref (47 - 27)], [.ref 0, .ref 4], updI (updI w1 0 6 (nI 27)) 0 5 (nI (47 - 27)))) 7 rfl).trans <|
    (runs_getD (pc := 44) (L := [.ref 0, .int r1, .ref (47 - 27)]) (st := [.ref 4]) (w := updI (updI w1 0 6 (nI 27)) 0 5 (nI (47 - 27))) rfl rfl (by decide)).trans <|
    (runs_callV (rv := none) (w' := w2) rfl rfl rfl rfl h6).trans <|
    (runs_stps (q' := (51, [.ref 0, .int r1, .ref (47 - 27)], [.ref 15], w2)) 2 rfl).trans <|
    (runs_callV (rv := none) (w' := w3) rfl rfl rfl rfl h7).trans <|
    (runs_stps (q' := (58, [.ref 0, .int r1, .ref (47 - 27)], [.ref 1], w3)) 2 rfl).trans <|
    (runs_callV (rv := none) (w' := w4) rfl rfl rfl rfl h8).trans <|
    (runs_stps (q' := (62, [.ref 0, .int r1, .ref (47 - 27)], [.int r1], w4)) 1 rfl).trans <|
    runs_ret rfl
theorem p_X8_school_0F_R {ex : Ex} {p : Nat} {r1 : Int32} {w1 : Wd} {w : Wd} (hp : scp p) (h1 : w.1 0 6 = nI (47 - p)) (h2 : ex 23 [.ref 1, .ref (47 - p)] w = some (some (.int r1), w1)) (h3 : ¬ 0 ≤ r1) : runs (T_X8_school ex) (0, [.ref 0, .null, .null], [], w) = some (some (.int r1), w1) := by
  rcases hp with rfl | rfl
  · exact (runs_stps (q' := (5, [.ref 0, .null, .null], [.ref 0, .ref 1], w)) 3 rfl).trans <|
    (runs_getD (pc := 8) (L := [.ref 0, .null, .null]) (st := [.ref 1]) (w := w) rfl h1 (by decide)).trans <|
    (runs_callV (rv := some (.int r1)) (w' := w1) rfl rfl rfl rfl h2).trans <|
    (runs_stps (q' := (13, [.ref 0, .int r1, .null], [.int r1], w1)) 2 rfl).trans <|
    (runs_if_f (a := 18) (b := 16) (L := [.ref 0, .int r1, .null]) (st := []) (w := w1) rfl h3).trans <|
    (runs_stps (q' := (17, [.ref 0, .int r1, .null], [.int r1], w1)) 1 rfl).trans <|
    runs_ret rfl
  · exact (runs_stps (q' := (5, [.ref 0, .null, .null], [.ref 0, .ref 1], w)) 3 rfl).trans <|
    (runs_getD (pc := 8) (L := [.ref 0, .null, .null]) (st := [.ref 1]) (w := w) rfl h1 (by decide)).trans <|
    (runs_callV (rv := some (.int r1)) (w' := w1) rfl rfl rfl rfl h2).trans <|
    (runs_stps (q' := (13, [.ref 0, .int r1, .null], [.int r1], w1)) 2 rfl).trans <|
    (runs_if_f (a := 18) (b := 16) (L := [.ref 0, .int r1, .null]) (st := []) (w := w1) rfl h3).trans <|
    (runs_stps (q' := (17, [.ref 0, .int r1, .null], [.int r1], w1)) 1 rfl).trans <|
    runs_ret rfl
theorem p_X8_spell_0TS0_R {ex : Ex} {p : Nat} {x1 : Int32} {x2 : Int32} {r1 : Int32} {w1 : Wd} {r2 : Int32} {w2 : Wd} {w : Wd} (hp : scp p) (h1 : w.1 0 5 = nI p) (h2 : ex 59 [.ref p, .int x1] w = some (some (.int r1), w1)) (h3 : ¬ r1 = 0) (h4 : x2 = 0) (h5 : w1.1 0 5 = nI p) (h6 : ex 63 [.ref p, .int x1] w1 = some (some (.int r2), w2)) : runs (T_X8_spell ex) (0, [.ref 0, .int x1, .int x2], [], w) = some (some (.int r2), w2) := by
  rcases hp with rfl | rfl
  · exact (runs_stps (q' := (1, [.ref 0, .int x1, .int x2], [.ref 0], w)) 1 rfl).trans <|
    (runs_getD (pc := 4) (L := [.ref 0, .int x1, .int x2]) (st := []) (w := w) rfl h1 (by decide)).trans <|
    (runs_stps (q' := (5, [.ref 0, .int x1, .int x2], [.int x1, .ref 20], w)) 1 rfl).trans <|
    (runs_callV (rv := some (.int r1)) (w' := w1) rfl rfl rfl rfl h2).trans <|
    (runs_if_f (a := 11) (b := 13) (L := [.ref 0, .int x1, .int x2]) (st := []) (w := w1) rfl h3).trans <|
    (runs_stps (q' := (14, [.ref 0, .int x1, .int x2], [.int x2], w1)) 1 rfl).trans <|
    (runs_sw (L := [.ref 0, .int x1, .int x2]) (st := []) (w := w1) rfl (show tsel _ _ _ = 44 by rw [h4]; rfl)).trans <|
    (runs_stps (q' := (45, [.ref 0, .int x1, .null], [.ref 0], w1)) 1 rfl).trans <|
    (runs_getD (pc := 48) (L := [.ref 0, .int x1, .null]) (st := []) (w := w1) rfl h5 (by decide)).trans <|
    (runs_stps (q' := (49, [.ref 0, .int x1, .null], [.int x1, .ref 20], w1)) 1 rfl).trans <|
    (runs_callV (rv := some (.int r2)) (w' := w2) rfl rfl rfl rfl h6).trans <|
    runs_ret rfl
  · exact (runs_stps (q' := (1, [.ref 0, .int x1, .int x2], [.ref 0], w)) 1 rfl).trans <|
    (runs_getD (pc := 4) (L := [.ref 0, .int x1, .int x2]) (st := []) (w := w) rfl h1 (by decide)).trans <|
    (runs_stps (q' := (5, [.ref 0, .int x1, .int x2], [.int x1, .ref 27], w)) 1 rfl).trans <|
    (runs_callV (rv := some (.int r1)) (w' := w1) rfl rfl rfl rfl h2).trans <|
    (runs_if_f (a := 11) (b := 13) (L := [.ref 0, .int x1, .int x2]) (st := []) (w := w1) rfl h3).trans <|
    (runs_stps (q' := (14, [.ref 0, .int x1, .int x2], [.int x2], w1)) 1 rfl).trans <|
    (runs_sw (L := [.ref 0, .int x1, .int x2]) (st := []) (w := w1) rfl (show tsel _ _ _ = 44 by rw [h4]; rfl)).trans <|
    (runs_stps (q' := (45, [.ref 0, .int x1, .null], [.ref 0], w1)) 1 rfl).trans <|
    (runs_getD (pc := 48) (L := [.ref 0, .int x1, .null]) (st := []) (w := w1) rfl h5 (by decide)).trans <|
    (runs_stps (q' := (49, [.ref 0, .int x1, .null], [.int x1, .ref 27], w1)) 1 rfl).trans <|
    (runs_callV (rv := some (.int r2)) (w' := w2) rfl rfl rfl rfl h6).trans <|
    runs_ret rfl
theorem p_X8_spell_0TS1T_R {ex : Ex} {p : Nat} {x1 : Int32} {x2 : Int32} {r1 : Int32} {w1 : Wd} {r2 : Int32} {w2 : Wd} {w : Wd} (hp : scp p) (h1 : w.1 0 5 = nI p) (h2 : ex 59 [.ref p, .int x1] w = some (some (.int r1), w1)) (h3 : ¬ r1 = 0) (h4 : x2 = 1) (h5 : w1.1 0 5 = nI p) (h6 : ex 64 [.ref p, .int x1] w1 = some (some (.int r2), w2)) (h7 : r2 = 0) : runs (T_X8_spell ex) (0, [.ref 0, .int x1, .int x2], [], w) = some (some (.int 0), w2) := by
  rcases hp with rfl | rfl
  · exact (runs_stps (q' := (1, [.ref 0, .int x1, .int x2], [.ref 0], w)) 1 rfl).trans <|
    (runs_getD (pc := 4) (L := [.ref 0, .int x1, .int x2]) (st := []) (w := w) rfl h1 (by decide)).trans <|
    (runs_stps (q' := (5, [.ref 0, .int x1, .int x2], [.int x1, .ref 20], w)) 1 rfl).trans <|
    (runs_callV (rv := some (.int r1)) (w' := w1) rfl rfl rfl rfl h2).trans <|
    (runs_if_f (a := 11) (b := 13) (L := [.ref 0, .int x1, .int x2]) (st := []) (w := w1) rfl h3).trans <|
    (runs_stps (q' := (14, [.ref 0, .int x1, .int x2], [.int x2], w1)) 1 rfl).trans <|
    (runs_sw (L := [.ref 0, .int x1, .int x2]) (st := []) (w := w1) rfl (show tsel _ _ _ = 53 by rw [h4]; rfl)).trans <|
    (runs_stps (q' := (54, [.ref 0, .int x1, .null], [.ref 0], w1)) 1 rfl).trans <|
    (runs_getD (pc := 57) (L := [.ref 0, .int x1, .null]) (st := []) (w := w1) rfl h5 (by decide)).trans <|
    (runs_stps (q' := (58, [.ref 0, .int x1, .null], [.int x1, .ref 20], w1)) 1 rfl).trans <|
    (runs_callV (rv := some (.int r2)) (w' := w2) rfl rfl rfl rfl h6).trans <|
    (runs_if_t (a := 68) (b := 64) (L := [.ref 0, .int x1, .null]) (st := []) (w := w2) rfl h7).trans <|
    (runs_stps (q' := (69, [.null, .null, .null], [.int 0], w2)) 1 rfl).trans <|
    runs_ret rfl
  · exact (runs_stps (q' := (1, [.ref 0, .int x1, .int x2], [.ref 0], w)) 1 rfl).trans <|
    (runs_getD (pc := 4) (L := [.ref 0, .int x1, .int x2]) (st := []) (w := w) rfl h1 (by decide)).trans <|
    (runs_stps (q' := (5, [.ref 0, .int x1, .int x2], [.int x1, .ref 27], w)) 1 rfl).trans <|
    (runs_callV (rv := some (.int r1)) (w' := w1) rfl rfl rfl rfl h2).trans <|
    (runs_if_f (a := 11) (b := 13) (L := [.ref 0, .int x1, .int x2]) (st := []) (w := w1) rfl h3).trans <|
    (runs_stps (q' := (14, [.ref 0, .int x1, .int x2], [.int x2], w1)) 1 rfl).trans <|
    (runs_sw (L := [.ref 0, .int x1, .int x2]) (st := []) (w := w1) rfl (show tsel _ _ _ = 53 by rw [h4]; rfl)).trans <|
    (runs_stps (q' := (54, [.ref 0, .int x1, .null], [.ref 0], w1)) 1 rfl).trans <|
    (runs_getD (pc := 57) (L := [.ref 0, .int x1, .null]) (st := []) (w := w1) rfl h5 (by decide)).trans <|
    (runs_stps (q' := (58, [.ref 0, .int x1, .null], [.int x1, .ref 27], w1)) 1 rfl).trans <|
    (runs_callV (rv := some (.int r2)) (w' := w2) rfl rfl rfl rfl h6).trans <|
    (runs_if_t (a := 68) (b := 64) (L := [.ref 0, .int x1, .null]) (st := []) (w := w2) rfl h7).trans <|
    (runs_stps (q' := (69, [.null, .null, .null], [.int 0], w2)) 1 rfl).trans <|
    runs_ret rfl
theorem p_X8_spell_0TS1F_R {ex : Ex} {p : Nat} {x1 : Int32} {x2 : Int32} {r1 : Int32} {w1 : Wd} {r2 : Int32} {w2 : Wd} {w : Wd} (hp : scp p) (h1 : w.1 0 5 = nI p) (h2 : ex 59 [.ref p, .int x1] w = some (some (.int r1), w1)) (h3 : ¬ r1 = 0) (h4 : x2 = 1) (h5 : w1.1 0 5 = nI p) (h6 : ex 64 [.ref p, .int x1] w1 = some (some (.int r2), w2)) (h7 : ¬ r2 = 0) : runs (T_X8_spell ex) (0, [.ref 0, .int x1, .int x2], [], w) = some (some (.int 1), w2) := by
  rcases hp with rfl | rfl
  · exact (runs_stps (q' := (1, [.ref 0, .int x1, .int x2], [.ref 0], w)) 1 rfl).trans <|
    (runs_getD (pc := 4) (L := [.ref 0, .int x1, .int x2]) (st := []) (w := w) rfl h1 (by decide)).trans <|
    (runs_stps (q' := (5, [.ref 0, .int x1, .int x2], [.int x1, .ref 20], w)) 1 rfl).trans <|
    (runs_callV (rv := some (.int r1)) (w' := w1) rfl rfl rfl rfl h2).trans <|
    (runs_if_f (a := 11) (b := 13) (L := [.ref 0, .int x1, .int x2]) (st := []) (w := w1) rfl h3).trans <|
    (runs_stps (q' := (14, [.ref 0, .int x1, .int x2], [.int x2], w1)) 1 rfl).trans <|
    (runs_sw (L := [.ref 0, .int x1, .int x2]) (st := []) (w := w1) rfl (show tsel _ _ _ = 53 by rw [h4]; rfl)).trans <|
    (runs_stps (q' := (54, [.ref 0, .int x1, .null], [.ref 0], w1)) 1 rfl).trans <|
    (runs_getD (pc := 57) (L := [.ref 0, .int x1, .null]) (st := []) (w := w1) rfl h5 (by decide)).trans <|
    (runs_stps (q' := (58, [.ref 0, .int x1, .null], [.int x1, .ref 20], w1)) 1 rfl).trans <|
    (runs_callV (rv := some (.int r2)) (w' := w2) rfl rfl rfl rfl h6).trans <|
    (runs_if_f (a := 68) (b := 64) (L := [.ref 0, .int x1, .null]) (st := []) (w := w2) rfl h7).trans <|
    (runs_stps (q' := (69, [.ref 0, .int x1, .null], [.int 1], w2)) 2 rfl).trans <|
    runs_ret rfl
  · exact (runs_stps (q' := (1, [.ref 0, .int x1, .int x2], [.ref 0], w)) 1 rfl).trans <|
    (runs_getD (pc := 4) (L := [.ref 0, .int x1, .int x2]) (st := []) (w := w) rfl h1 (by decide)).trans <|
    (runs_stps (q' := (5, [.ref 0, .int x1, .int x2], [.int x1, .ref 27], w)) 1 rfl).trans <|
    (runs_callV (rv := some (.int r1)) (w' := w1) rfl rfl rfl rfl h2).trans <|
    (runs_if_f (a := 11) (b := 13) (L := [.ref 0, .int x1, .int x2]) (st := []) (w := w1) rfl h3).trans <|
    (runs_stps (q' := (14, [.ref 0, .int x1, .int x2], [.int x2], w1)) 1 rfl).trans <|
    (runs_sw (L := [.ref 0, .int x1, .int x2]) (st := []) (w := w1) rfl (show tsel _ _ _ = 53 by rw [h4]; rfl)).trans <|
    (runs_stps (q' := (54, [.ref 0, .int x1, .null], [.ref 0], w1)) 1 rfl).trans <|
    (runs_getD (pc := 57) (L := [.ref 0, .int x1, .null]) (st := []) (w := w1) rfl h5 (by decide)).trans <|
    (runs_stps (q' := (58, [.ref 0, .int x1, .null], [.int x1, .ref 27], w1)) 1 rfl).trans <|
    (runs_callV (rv := some (.int r2)) (w' := w2) rfl rfl rfl rfl h6).trans <|
    (runs_if_f (a := 68) (b := 64) (L := [.ref 0, .int x1, .null]) (st := []) (w := w2) rfl h7).trans <|
    (runs_stps (q' := (69, [.ref 0, .int x1, .null], [.int 1], w2)) 2 rfl).trans <|
    runs_ret rfl
theorem p_X8_spell_0TS2_R {ex : Ex} {p : Nat} {x1 : Int32} {x2 : Int32} {r1 : Int32} {w1 : Wd} {r2 : Int32} {w2 : Wd} {w : Wd} (hp : scp p) (h1 : w.1 0 5 = nI p) (h2 : ex 59 [.ref p, .int x1] w = some (some (.int r1), w1)) (h3 : ¬ r1 = 0) (h4 : x2 = 2) (h5 : w1.1 0 5 = nI p) (h6 : ex 65 [.ref p, .int x1] w1 = some (some (.int r2), w2)) : runs (T_X8_spell ex) (0, [.ref 0, .int x1, .int x2], [], w) = some (some (.int r2), w2) := by
  rcases hp with rfl | rfl
  · exact (runs_stps (q' := (1, [.ref 0, .int x1, .int x2], [.ref 0], w)) 1 rfl).trans <|
    (runs_getD (pc := 4) (L := [.ref 0, .int x1, .int x2]) (st := []) (w := w) rfl h1 (by decide)).trans <|
    (runs_stps (q' := (5, [.ref 0, .int x1, .int x2], [.int x1, .ref 20], w)) 1 rfl).trans <|
    (runs_callV (rv := some (.int r1)) (w' := w1) rfl rfl rfl rfl h2).trans <|
    (runs_if_f (a := 11) (b := 13) (L := [.ref 0, .int x1, .int x2]) (st := []) (w := w1) rfl h3).trans <|
    (runs_stps (q' := (14, [.ref 0, .int x1, .int x2], [.int x2], w1)) 1 rfl).trans <|
    (runs_sw (L := [.ref 0, .int x1, .int x2]) (st := []) (w := w1) rfl (show tsel _ _ _ = 70 by rw [h4]; rfl)).trans <|
    (runs_stps (q' := (71, [.ref 0, .int x1, .null], [.ref 0], w1)) 1 rfl).trans <|
    (runs_getD (pc := 74) (L := [.ref 0, .int x1, .null]) (st := []) (w := w1) rfl h5 (by decide)).trans <|
    (runs_stps (q' := (75, [.ref 0, .int x1, .null], [.int x1, .ref 20], w1)) 1 rfl).trans <|
    (runs_callV (rv := some (.int r2)) (w' := w2) rfl rfl rfl rfl h6).trans <|
    runs_ret rfl
  · exact (runs_stps (q' := (1, [.ref 0, .int x1, .int x2], [.ref 0], w)) 1 rfl).trans <|
    (runs_getD (pc := 4) (L := [.ref 0, .int x1, .int x2]) (st := []) (w := w) rfl h1 (by decide)).trans <|
    (runs_stps (q' := (5, [.ref 0, .int x1, .int x2], [.int x1, .ref 27], w)) 1 rfl).trans <|
    (runs_callV (rv := some (.int r1)) (w' := w1) rfl rfl rfl rfl h2).trans <|
    (runs_if_f (a := 11) (b := 13) (L := [.ref 0, .int x1, .int x2]) (st := []) (w := w1) rfl h3).trans <|
    (runs_stps (q' := (14, [.ref 0, .int x1, .int x2], [.int x2], w1)) 1 rfl).trans <|
    (runs_sw (L := [.ref 0, .int x1, .int x2]) (st := []) (w := w1) rfl (show tsel _ _ _ = 70 by rw [h4]; rfl)).trans <|
    (runs_stps (q' := (71, [.ref 0, .int x1, .null], [.ref 0], w1)) 1 rfl).trans <|
    (runs_getD (pc := 74) (L := [.ref 0, .int x1, .null]) (st := []) (w := w1) rfl h5 (by decide)).trans <|
    (runs_stps (q' := (75, [.ref 0, .int x1, .null], [.int x1, .ref 27], w1)) 1 rfl).trans <|
    (runs_callV (rv := some (.int r2)) (w' := w2) rfl rfl rfl rfl h6).trans <|
    runs_ret rfl
theorem p_X8_spell_0TS3_R {ex : Ex} {p : Nat} {x1 : Int32} {x2 : Int32} {r1 : Int32} {w1 : Wd} {r2 : Int32} {w2 : Wd} {w : Wd} (hp : scp p) (h1 : w.1 0 5 = nI p) (h2 : ex 59 [.ref p, .int x1] w = some (some (.int r1), w1)) (h3 : ¬ r1 = 0) (h4 : x2 = 3) (h5 : w1.1 0 5 = nI p) (h6 : ex 66 [.ref p, .int x1] w1 = some (some (.int r2), w2)) : runs (T_X8_spell ex) (0, [.ref 0, .int x1, .int x2], [], w) = some (some (.int r2), w2) := by
  rcases hp with rfl | rfl
  · exact (runs_stps (q' := (1, [.ref 0, .int x1, .int x2], [.ref 0], w)) 1 rfl).trans <|
    (runs_getD (pc := 4) (L := [.ref 0, .int x1, .int x2]) (st := []) (w := w) rfl h1 (by decide)).trans <|
    (runs_stps (q' := (5, [.ref 0, .int x1, .int x2], [.int x1, .ref 20], w)) 1 rfl).trans <|
    (runs_callV (rv := some (.int r1)) (w' := w1) rfl rfl rfl rfl h2).trans <|
    (runs_if_f (a := 11) (b := 13) (L := [.ref 0, .int x1, .int x2]) (st := []) (w := w1) rfl h3).trans <|
    (runs_stps (q' := (14, [.ref 0, .int x1, .int x2], [.int x2], w1)) 1 rfl).trans <|
    (runs_sw (L := [.ref 0, .int x1, .int x2]) (st := []) (w := w1) rfl (show tsel _ _ _ = 79 by rw [h4]; rfl)).trans <|
    (runs_stps (q' := (80, [.ref 0, .int x1, .null], [.ref 0], w1)) 1 rfl).trans <|
    (runs_getD (pc := 83) (L := [.ref 0, .int x1, .null]) (st := []) (w := w1) rfl h5 (by decide)).trans <|
    (runs_stps (q' := (84, [.ref 0, .int x1, .null], [.int x1, .ref 20], w1)) 1 rfl).trans <|
    (runs_callV (rv := some (.int r2)) (w' := w2) rfl rfl rfl rfl h6).trans <|
    runs_ret rfl
  · exact (runs_stps (q' := (1, [.ref 0, .int x1, .int x2], [.ref 0], w)) 1 rfl).trans <|
    (runs_getD (pc := 4) (L := [.ref 0, .int x1, .int x2]) (st := []) (w := w) rfl h1 (by decide)).trans <|
    (runs_stps (q' := (5, [.ref 0, .int x1, .int x2], [.int x1, .ref 27], w)) 1 rfl).trans <|
    (runs_callV (rv := some (.int r1)) (w' := w1) rfl rfl rfl rfl h2).trans <|
    (runs_if_f (a := 11) (b := 13) (L := [.ref 0, .int x1, .int x2]) (st := []) (w := w1) rfl h3).trans <|
    (runs_stps (q' := (14, [.ref 0, .int x1, .int x2], [.int x2], w1)) 1 rfl).trans <|
    (runs_sw (L := [.ref 0, .int x1, .int x2]) (st := []) (w := w1) rfl (show tsel _ _ _ = 79 by rw [h4]; rfl)).trans <|
    (runs_stps (q' := (80, [.ref 0, .int x1, .null], [.ref 0], w1)) 1 rfl).trans <|
    (runs_getD (pc := 83) (L := [.ref 0, .int x1, .null]) (st := []) (w := w1) rfl h5 (by decide)).trans <|
    (runs_stps (q' := (84, [.ref 0, .int x1, .null], [.int x1, .ref 27], w1)) 1 rfl).trans <|
    (runs_callV (rv := some (.int r2)) (w' := w2) rfl rfl rfl rfl h6).trans <|
    runs_ret rfl

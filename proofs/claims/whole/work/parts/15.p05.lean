/-! paths of the methods (printed by a program) -/
theorem p_X8_cheapest_0FFFTTF_R {ex : Ex} {p : Nat} {x1 : Int32} {x2 : Int32} {x3 : Int32} {x4 : Int32} {r1 : Int32} {w1 : Wd} {r2 : Int32} {w2 : Wd} {r3 : Int32} {w3 : Wd} {r4 : Int32} {w4 : Wd} {r5 : Int32} {w5 : Wd} {r6 : Int32} {w6 : Wd} {r7 : Int32} {w7 : Wd} {r8 : Int32} {w8 : Wd} {w : Wd} (hp : scp p) (h1 : w.1 0 5 = nI p) (h2 : ex 60 [.ref p, .int x1] w = some (some (.int r1), w1)) (h3 : ¬ r1 = 0) (h4 : ex 130 [.int x2] w1 = some (some (.int r2), w2)) (h5 : ¬ r2 = 0) (h6 : w2.1 0 5 = nI p) (h7 : ex 62 [.ref p, .int x3] w2 = some (some (.int r3), w3)) (h8 : ¬ r3 = 0) (h9 : ex 131 [.int x4] w3 = some (some (.int r4), w4)) (h10 : ¬ r4 = 0) (h11 : ex 92 [.ref 4, .int x1] w4 = some (some (.int r5), w5)) (h12 : w5.1 0 5 = nI p) (h13 : w5.1 0 5 = nI p) (h14 : ex 69 [.ref p, .int x3] w5 = some (some (.int r6), w6)) (h15 : ex 78 [.ref p, .int r5, .int x2, .int r6] w6 = some (some (.int r7), w7)) (h16 : ¬ r7 = 0) (h17 : w7.1 0 5 = nI p) (h18 : ex 83 [.ref 11, .ref p, .int r5, .int x2, .int x3] w7 = some (some (.int r8), w8)) (h19 : r8 = 1073741824) : runs (T_X8_cheapest ex) (0, [.ref 0, .int x1, .int x2, .int x3, .int x4, .null, .null], [], w) = some (some (.int (-9)), w8) := by
  rcases hp with rfl | rfl
  · exact (runs_stps (q' := (1, [.ref 0, .int x1, .int x2, .int x3, .int x4, .null, .null], [.ref 0], w)) 1 rfl).trans <|
    (runs_getD (pc := 4) (L := [.ref 0, .int x1, .int x2, .int x3, .int x4, .null, .null]) (st := []) (w := w) rfl h1 (by decide)).trans <|
    (runs_stps (q' := (5, [.ref 0, .int x1, .int x2, .int x3, .int x4, .null, .null], [.int x1, .ref 20], w)) 1 rfl).trans <|
    (runs_callV (rv := some (.int r1)) (w' := w1) rfl rfl rfl rfl h2).trans <|
    (runs_if_f (a := 37) (b := 11) (L := [.ref 0, .int x1, .int x2, .int x3, .int x4, .null, .null]) (st := []) (w := w1) rfl h3).trans <|
    (runs_stps (q' := (12, [.ref 0, .int x1, .int x2, .int x3, .int x4, .null, .null], [.int x2], w1)) 1 rfl).trans <|
    (runs_callS (rv := some (.int r2)) (w' := w2) rfl rfl rfl h4).trans <|
    (runs_if_f (a := 37) (b := 18) (L := [.ref 0, .int x1, .int x2, .int x3, .int x4, .null, .null]) (st := []) (w := w2) rfl h5).trans <|
    (runs_stps (q' := (19, [.ref 0, .int x1, .int x2, .int x3, .int x4, .null, .null], [.ref 0], w2)) 1 rfl).trans <|
    (runs_getD (pc := 22) (L := [.ref 0, .int x1, .int x2, .int x3, .int x4, .null, .null]) (st := []) (w := w2) rfl h6 (by decide)).trans <|
    (runs_stps (q' := (23, [.ref 0, .int x1, .int x2, .int x3, .int x4, .null, .null], [.int x3, .ref 20], w2)) 1 rfl).trans <|
    (runs_callV (rv := some (.int r3)) (w' := w3) rfl rfl rfl rfl h7).trans <|
    (runs_if_f (a := 37) (b := 29) (L := [.ref 0, .int x1, .int x2, .int x3, .int x4, .null, .null]) (st := []) (w := w3) rfl h8).trans <|
    (runs_stps (q' := (31, [.ref 0, .int x1, .int x2, .int x3, .int x4, .null, .null], [.int x4], w3)) 1 rfl).trans <|
    (runs_callS (rv := some (.int r4)) (w' := w4) rfl rfl rfl h9).trans <|
    (runs_if_f (a := 37) (b := 39) (L := [.ref 0, .int x1, .int x2, .int x3, .int x4, .null, .null]) (st := []) (w := w4) rfl h10).trans <|
    (runs_stps (q' := (44, [.ref 0, .int x1, .int x2, .int x3, .int x4, .null, .null], [.int x1, .ref 4], w4)) 3 rfl).trans <|
    (runs_callV (rv := some (.int r5)) (w' := w5) rfl rfl rfl rfl h11).trans <|
    (runs_stps (q' := (50, [.ref 0, .int x1, .int x2, .int x3, .int x4, .int r5, .null], [.ref 0], w5)) 2 rfl).trans <|
    (runs_getD (pc := 53) (L := [.ref 0, .int x1, .int x2, .int x3, .int x4, .int r5, .null]) (st := []) (w := w5) rfl h12 (by decide)).trans <|
    (runs_stps (q' := (57, [.ref 0, .int x1, .int x2, .int x3, .int x4, .int r5, .null], [.ref 0, .int x2, .int r5, .ref 20], w5)) 3 rfl).trans <|
    (runs_getD (pc := 60) (L := [.ref 0, .int x1, .int x2, .int x3, .int x4, .int r5, .null]) (st := [.int x2, .int r5, .ref 20]) (w := w5) rfl h13 (by decide)).trans <|
    (runs_stps (q' := (61, [.ref 0, .int x1, .int x2, .int x3, .int x4, .int r5, .null], [.int x3, .ref 20, .int x2, .int r5, .ref 20], w5)) 1 rfl).trans <|
    (runs_callV (rv := some (.int r6)) (w' := w6) rfl rfl rfl rfl h14).trans <|
    (runs_callV (rv := some (.int r7)) (w' := w7) rfl rfl rfl rfl h15).trans <|
    (runs_if_f (a := 70) (b := 73) (L := [.ref 0, .int x1, .int x2, .int x3, .int x4, .int r5, .null]) (st := []) (w := w7) rfl h16).trans <|
    (runs_stps (q' := (78, [.ref 0, .null, .int x2, .int x3, .int x4, .int r5, .null], [.ref 0, .ref 11], w7)) 3 rfl).trans <|
    (runs_getD (pc := 81) (L := [.ref 0, .null, .int x2, .int x3, .int x4, .int r5, .null]) (st := [.ref 11]) (w := w7) rfl h17 (by decide)).trans <|
    (runs_stps (q' := (85, [.ref 0, .null, .int x2, .int x3, .int x4, .int r5, .null], [.int x3, .int x2, .int r5, .ref 20, .ref 11], w7)) 3 rfl).trans <|
    (runs_callV (rv := some (.int r8)) (w' := w8) rfl rfl rfl rfl h18).trans <|
    (runs_stps (q' := (94, [.ref 0, .null, .int x2, .int x3, .int x4, .int r5, .int r8], [.int 1073741824, .int r8], w8)) 3 rfl).trans <|
    (runs_if_t (a := 97) (b := 100) (L := [.ref 0, .null, .int x2, .int x3, .int x4, .int r5, .int r8]) (st := []) (w := w8) rfl h19).trans <|
    (runs_stps (q' := (99, [.ref 0, .null, .int x2, .int x3, .int x4, .int r5, .int r8], [.int (-9)], w8)) 1 rfl).trans <|
    runs_ret rfl
  · exact (runs_stps (q' := (1, [.ref 0, .int x1, .int x2, .int x3, .int x4, .null, .null], [.ref 0], w)) 1 rfl).trans <|
    (runs_getD (pc := 4) (L := [.ref 0, .int x1, .int x2, .int x3, .int x4, .null, .null]) (st := []) (w := w) rfl h1 (by decide)).trans <|
    (runs_stps (q' := (5, [.ref 0, .int x1, .int x2, .int x3, .int x4, .null, .null], [.int x1, .ref 27], w)) 1 rfl).trans <|
    (runs_callV (rv := some (.int r1)) (w' := w1) rfl rfl rfl rfl h2).trans <|
    (runs_if_f (a := 37) (b := 11) (L := [.ref 0, .int x1, .int x2, .int x3, .int x4, .null, .null]) (st := []) (w := w1) rfl h3).trans <|
    (runs_stps (q' := (12, [.ref 0, .int x1, .int x2, .int x3, .int x4, .null, .null], [.int x2], w1)) 1 rfl).trans <|
    (runs_callS (rv := some (.int r2)) (w' := w2) rfl rfl rfl h4).trans <|
    (runs_if_f (a := 37) (b := 18) (L := [.ref 0, .int x1, .int x2, .int x3, .int x4, .null, .null]) (st := []) (w := w2) rfl h5).trans <|
    (runs_stps (q' := (19, [.ref 0, .int x1, .int x2, .int x3, .int x4, .null, .null], [.ref 0], w2)) 1 rfl).trans <|
    (runs_getD (pc := 22) (L := [.ref 0, .int x1, .int x2, .int x3, .int x4, .null, .null]) (st := []) (w := w2) rfl h6 (by decide)).trans <|
    (runs_stps (q' := (23, [.ref 0, .int x1, .int x2, .int x3, .int x4, .null, .null], [.int x3, .ref 27], w2)) 1 rfl).trans <|
    (runs_callV (rv := some (.int r3)) (w' := w3) rfl rfl rfl rfl h7).trans <|
    (runs_if_f (a := 37) (b := 29) (L := [.ref 0, .int x1, .int x2, .int x3, .int x4, .null, .null]) (st := []) (w := w3) rfl h8).trans <|
    (runs_stps (q' := (31, [.ref 0, .int x1, .int x2, .int x3, .int x4, .null, .null], [.int x4], w3)) 1 rfl).trans <|
    (runs_callS (rv := some (.int r4)) (w' := w4) rfl rfl rfl h9).trans <|
    (runs_if_f (a := 37) (b := 39) (L := [.ref 0, .int x1, .int x2, .int x3, .int x4, .null, .null]) (st := []) (w := w4) rfl h10).trans <|
    (runs_stps (q' := (44, [.ref 0, .int x1, .int x2, .int x3, .int x4, .null, .null], [.int x1, .ref 4], w4)) 3 rfl).trans <|
    (runs_callV (rv := some (.int r5)) (w' := w5) rfl rfl rfl rfl h11).trans <|
    (runs_stps (q' := (50, [.ref 0, .int x1, .int x2, .int x3, .int x4, .int r5, .null], [.ref 0], w5)) 2 rfl).trans <|
    (runs_getD (pc := 53) (L := [.ref 0, .int x1, .int x2, .int x3, .int x4, .int r5, .null]) (st := []) (w := w5) rfl h12 (by decide)).trans <|
    (runs_stps (q' := (57, [.ref 0, .int x1, .int x2, .int x3, .int x4, .int r5, .null], [.ref 0, .int x2, .int r5, .ref 27], w5)) 3 rfl).trans <|
    (runs_getD (pc := 60) (L := [.ref 0, .int x1, .int x2, .int x3, .int x4, .int r5, .null]) (st := [.int x2, .int r5, .ref 27]) (w := w5) rfl h13 (by decide)).trans <|
    (runs_stps (q' := (61, [.ref 0, .int x1, .int x2, .int x3, .int x4, .int r5, .null], [.int x3, .ref 27, .int x2, .int r5, .ref 27], w5)) 1 rfl).trans <|
    (runs_callV (rv := some (.int r6)) (w' := w6) rfl rfl rfl rfl h14).trans <|
    (runs_callV (rv := some (.int r7)) (w' := w7) rfl rfl rfl rfl h15).trans <|
    (runs_if_f (a := 70) (b := 73) (L := [.ref 0, .int x1, .int x2, .int x3, .int x4, .int r5, .null]) (st := []) (w := w7) rfl h16).trans <|
    (runs_stps (q' := (78, [.ref 0, .null, .int x2, .int x3, .int x4, .int r5, .null], [.ref 0, .ref 11], w7)) 3 rfl).trans <|
    (runs_getD (pc := 81) (L := [.ref 0, .null, .int x2, .int x3, .int x4, .int r5, .null]) (st := [.ref 11]) (w := w7) rfl h17 (by decide)).trans <|
    (runs_stps (q' := (85, [.ref 0, .null, .int x2, .int x3, .int x4, .int r5, .null], [.int x3, .int x2, .int r5, .ref 27, .ref 11], w7)) 3 rfl).trans <|
    (runs_callV (rv := some (.int r8)) (w' := w8) rfl rfl rfl rfl h18).trans <|
    (runs_stps (q' := (94, [.ref 0, .null, .int x2, .int x3, .int x4, .int r5, .int r8], [.int 1073741824, .int r8], w8)) 3 rfl).trans <|
    (runs_if_t (a := 97) (b := 100) (L := [.ref 0, .null, .int x2, .int x3, .int x4, .int r5, .int r8]) (st := []) (w := w8) rfl h19).trans <|
    (runs_stps (q' := (99, [.ref 0, .null, .int x2, .int x3, .int x4, .int r5, .int r8], [.int (-9)], w8)) 1 rfl).trans <|
    runs_ret rfl
theorem p_X8_cheapest_0FFFTF_R {ex : Ex} {p : Nat} {x1 : Int32} {x2 : Int32} {x3 : Int32} {x4 : Int32} {r1 : Int32} {w1 : Wd} {r2 : Int32} {w2 : Wd} {r3 : Int32} {w3 : Wd} {r4 : Int32} {w4 : Wd} {r5 : Int32} {w5 : Wd} {r6 : Int32} {w6 : Wd} {r7 : Int32} {w7 : Wd} {w : Wd} (hp : scp p) (h1 : w.1 0 5 = nI p) (h2 : ex 60 [.ref p, .int x1] w = some (some (.int r1), w1)) (h3 : ¬ r1 = 0) (h4 : ex 130 [.int x2] w1 = some (some (.int r2), w2)) (h5 : ¬ r2 = 0) (h6 : w2.1 0 5 = nI p) (h7 : ex 62 [.ref p, .int x3] w2 = some (some (.int r3), w3)) (h8 : ¬ r3 = 0) (h9 : ex 131 [.int x4] w3 = some (some (.int r4), w4)) (h10 : ¬ r4 = 0) (h11 : ex 92 [.ref 4, .int x1] w4 = some (some (.int r5), w5)) (h12 : w5.1 0 5 = nI p) (h13 : w5.1 0 5 = nI p) (h14 : ex 69 [.ref p, .int x3] w5 = some (some (.int r6), w6)) (h15 : ex 78 [.ref p, .int r5, .int x2, .int r6] w6 = some (some (.int r7), w7)) (h16 : r7 = 0) : runs (T_X8_cheapest ex) (0, [.ref 0, .int x1, .int x2, .int x3, .int x4, .null, .null], [], w) = some (some (.int (-9)), w7) := by
  rcases hp with rfl | rfl
  · exact (runs_stps (q' := (1, [.ref 0, .int x1, .int x2, .int x3, .int x4, .null, .null], [.ref 0], w)) 1 rfl).trans <|
    (runs_getD (pc := 4) (L := [.ref 0, .int x1, .int x2, .int x3, .int x4, .null, .null]) (st := []) (w := w) rfl h1 (by decide)).trans <|
    (runs_stps (q' := (5, [.ref 0, .int x1, .int x2, .int x3, .int x4, .null, .null], [.int x1, .ref 20], w)) 1 rfl).trans <|
    (runs_callV (rv := some (.int r1)) (w' := w1) rfl rfl rfl rfl h2).trans <|
    (runs_if_f (a := 37) (b := 11) (L := [.ref 0, .int x1, .int x2, .int x3, .int x4, .null, .null]) (st := []) (w := w1) rfl h3).trans <|
    (runs_stps (q' := (12, [.ref 0, .int x1, .int x2, .int x3, .int x4, .null, .null], [.int x2], w1)) 1 rfl).trans <|
    (runs_callS (rv := some (.int r2)) (w' := w2) rfl rfl rfl h4).trans <|
    (runs_if_f (a := 37) (b := 18) (L := [.ref 0, .int x1, .int x2, .int x3, .int x4, .null, .null]) (st := []) (w := w2) rfl h5).trans <|
    (runs_stps (q' := (19, [.ref 0, .int x1, .int x2, .int x3, .int x4, .null, .null], [.ref 0], w2)) 1 rfl).trans <|
    (runs_getD (pc := 22) (L := [.ref 0, .int x1, .int x2, .int x3, .int x4, .null, .null]) (st := []) (w := w2) rfl h6 (by decide)).trans <|
    (runs_stps (q' := (23, [.ref 0, .int x1, .int x2, .int x3, .int x4, .null, .null], [.int x3, .ref 20], w2)) 1 rfl).trans <|
    (runs_callV (rv := some (.int r3)) (w' := w3) rfl rfl rfl rfl h7).trans <|
    (runs_if_f (a := 37) (b := 29) (L := [.ref 0, .int x1, .int x2, .int x3, .int x4, .null, .null]) (st := []) (w := w3) rfl h8).trans <|
    (runs_stps (q' := (31, [.ref 0, .int x1, .int x2, .int x3, .int x4, .null, .null], [.int x4], w3)) 1 rfl).trans <|
    (runs_callS (rv := some (.int r4)) (w' := w4) rfl rfl rfl h9).trans <|
    (runs_if_f (a := 37) (b := 39) (L := [.ref 0, .int x1, .int x2, .int x3, .int x4, .null, .null]) (st := []) (w := w4) rfl h10).trans <|
    (runs_stps (q' := (44, [.ref 0, .int x1, .int x2, .int x3, .int x4, .null, .null], [.int x1, .ref 4], w4)) 3 rfl).trans <|
    (runs_callV (rv := some (.int r5)) (w' := w5) rfl rfl rfl rfl h11).trans <|
    (runs_stps (q' := (50, [.ref 0, .int x1, .int x2, .int x3, .int x4, .int r5, .null], [.ref 0], w5)) 2 rfl).trans <|
    (runs_getD (pc := 53) (L := [.ref 0, .int x1, .int x2, .int x3, .int x4, .int r5, .null]) (st := []) (w := w5) rfl h12 (by decide)).trans <|
    (runs_stps (q' := (57, [.ref 0, .int x1, .int x2, .int x3, .int x4, .int r5, .null], [.ref 0, .int x2, .int r5, .ref 20], w5)) 3 rfl).trans <|
    (runs_getD (pc := 60) (L := [.ref 0, .int x1, .int x2, .int x3, .int x4, .int r5, .null]) (st := [.int x2, .int r5, .ref 20]) (w := w5) rfl h13 (by decide)).trans <|
    (runs_stps (q' := (61, [.ref 0, .int x1, .int x2, .int x3, .int x4, .int r5, .null], [.int x3, .ref 20, .int x2, .int r5, .ref 20], w5)) 1 rfl).trans <|
    (runs_callV (rv := some (.int r6)) (w' := w6) rfl rfl rfl rfl h14).trans <|
    (runs_callV (rv := some (.int r7)) (w' := w7) rfl rfl rfl rfl h15).trans <|
    (runs_if_t (a := 70) (b := 73) (L := [.ref 0, .int x1, .int x2, .int x3, .int x4, .int r5, .null]) (st := []) (w := w7) rfl h16).trans <|
    (runs_stps (q' := (72, [.ref 0, .int x1, .int x2, .int x3, .int x4, .int r5, .null], [.int (-9)], w7)) 1 rfl).trans <|
    runs_ret rfl
  · exact (runs_stps (q' := (1, [.ref 0, .int x1, .int x2, .int x3, .int x4, .null, .null], [.ref 0], w)) 1 rfl).trans <|
    (runs_getD (pc := 4) (L := [.ref 0, .int x1, .int x2, .int x3, .int x4, .null, .null]) (st := []) (w := w) rfl h1 (by decide)).trans <|
    (runs_stps (q' := (5, [.ref 0, .int x1, .int x2, .int x3, .int x4, .null, .null], [.int x1, .ref 27], w)) 1 rfl).trans <|
    (runs_callV (rv := some (.int r1)) (w' := w1) rfl rfl rfl rfl h2).trans <|
    (runs_if_f (a := 37) (b := 11) (L := [.ref 0, .int x1, .int x2, .int x3, .int x4, .null, .null]) (st := []) (w := w1) rfl h3).trans <|
    (runs_stps (q' := (12, [.ref 0, .int x1, .int x2, .int x3, .int x4, .null, .null], [.int x2], w1)) 1 rfl).trans <|
    (runs_callS (rv := some (.int r2)) (w' := w2) rfl rfl rfl h4).trans <|
    (runs_if_f (a := 37) (b := 18) (L := [.ref 0, .int x1, .int x2, .int x3, .int x4, .null, .null]) (st := []) (w := w2) rfl h5).trans <|
    (runs_stps (q' := (19, [.ref 0, .int x1, .int x2, .int x3, .int x4, .null, .null], [.ref 0], w2)) 1 rfl).trans <|
    (runs_getD (pc := 22) (L := [.ref 0, .int x1, .int x2, .int x3, .int x4, .null, .null]) (st := []) (w := w2) rfl h6 (by decide)).trans <|
    (runs_stps (q' := (23, [.ref 0, .int x1, .int x2, .int x3, .int x4, .null, .null], [.int x3, .ref 27], w2)) 1 rfl).trans <|
    (runs_callV (rv := some (.int r3)) (w' := w3) rfl rfl rfl rfl h7).trans <|
    (runs_if_f (a := 37) (b := 29) (L := [.ref 0, .int x1, .int x2, .int x3, .int x4, .null, .null]) (st := []) (w := w3) rfl h8).trans <|
    (runs_stps (q' := (31, [.ref 0, .int x1, .int x2, .int x3, .int x4, .null, .null], [.int x4], w3)) 1 rfl).trans <|
    (runs_callS (rv := some (.int r4)) (w' := w4) rfl rfl rfl h9).trans <|
    (runs_if_f (a := 37) (b := 39) (L := [.ref 0, .int x1, .int x2, .int x3, .int x4, .null, .null]) (st := []) (w := w4) rfl h10).trans <|
    (runs_stps (q' := (44, [.ref 0, .int x1, .int x2, .int x3, .int x4, .null, .null], [.int x1, .ref 4], w4)) 3 rfl).trans <|
    (runs_callV (rv := some (.int r5)) (w' := w5) rfl rfl rfl rfl h11).trans <|
    (runs_stps (q' := (50, [.ref 0, .int x1, .int x2, .int x3, .int x4, .int r5, .null], [.ref 0], w5)) 2 rfl).trans <|
    (runs_getD (pc := 53) (L := [.ref 0, .int x1, .int x2, .int x3, .int x4, .int r5, .null]) (st := []) (w := w5) rfl h12 (by decide)).trans <|
    (runs_stps (q' := (57, [.ref 0, .int x1, .int x2, .int x3, .int x4, .int r5, .null], [.ref 0, .int x2, .int r5, .ref 27], w5)) 3 rfl).trans <|
    (runs_getD (pc := 60) (L := [.ref 0, .int x1, .int x2, .int x3, .int x4, .int r5, .null]) (st := [.int x2, .int r5, .ref 27]) (w := w5) rfl h13 (by decide)).trans <|
    (runs_stps (q' := (61, [.ref 0, .int x1, .int x2, .int x3, .int x4, .int r5, .null], [.int x3, .ref 27, .int x2, .int r5, .ref 27], w5)) 1 rfl).trans <|
    (runs_callV (rv := some (.int r6)) (w' := w6) rfl rfl rfl rfl h14).trans <|
    (runs_callV (rv := some (.int r7)) (w' := w7) rfl rfl rfl rfl h15).trans <|
    (runs_if_t (a := 70) (b := 73) (L := [.ref 0, .int x1, .int x2, .int x3, .int x4, .int r5, .null]) (st := []) (w := w7) rfl h16).trans <|
    (runs_stps (q' := (72, [.ref 0, .int x1, .int x2, .int x3, .int x4, .int r5, .null], [.int (-9)], w7)) 1 rfl).trans <|
    runs_ret rfl
theorem p_X8_cheapest_0FFFF_R {ex : Ex} {p : Nat} {x1 : Int32} {x2 : Int32} {x3 : Int32} {x4 : Int32} {r1 : Int32} {w1 : Wd} {r2 : Int32} {w2 : Wd} {r3 : Int32} {w3 : Wd} {r4 : Int32} {w4 : Wd} {w : Wd} (hp : scp p) (h1 : w.1 0 5 = nI p) (h2 : ex 60 [.ref p, .int x1] w = some (some (.int r1), w1)) (h3 : ¬ r1 = 0) (h4 : ex 130 [.int x2] w1 = some (some (.int r2), w2)) (h5 : ¬ r2 = 0) (h6 : w2.1 0 5 = nI p) (h7 : ex 62 [.ref p, .int x3] w2 = some (some (.int r3), w3)) (h8 : ¬ r3 = 0) (h9 : ex 131 [.int x4] w3 = some (some (.int r4), w4)) (h10 : r4 = 0) : runs (T_X8_cheapest ex) (0, [.ref 0, .int x1, .int x2, .int x3, .int x4, .null, .null], [], w) = some (some (.int (-1)), w4) := by
  rcases hp with rfl | rfl
  · exact (runs_stps (q' := (1, [.ref 0, .int x1, .int x2, .int x3, .int x4, .null, .null], [.ref 0], w)) 1 rfl).trans <|
    (runs_getD (pc := 4) (L := [.ref 0, .int x1, .int x2, .int x3, .int x4, .null, .null]) (st := []) (w := w) rfl h1 (by decide)).trans <|
    (runs_stps (q' := (5, [.ref 0, .int x1, .int x2, .int x3, .int x4, .null, .null], [.int x1, .ref 20], w)) 1 rfl).trans <|
    (runs_callV (rv := some (.int r1)) (w' := w1) rfl rfl rfl rfl h2).trans <|
    (runs_if_f (a := 37) (b := 11) (L := [.ref 0, .int x1, .int x2, .int x3, .int x4, .null, .null]) (st := []) (w := w1) rfl h3).trans <|
    (runs_stps (q' := (12, [.ref 0, .int x1, .int x2, .int x3, .int x4, .null, .null], [.int x2], w1)) 1 rfl).trans <|
    (runs_callS (rv := some (.int r2)) (w' := w2) rfl rfl rfl h4).trans <|
    (runs_if_f (a := 37) (b := 18) (L := [.ref 0, .int x1, .int x2, .int x3, .int x4, .null, .null]) (st := []) (w := w2) rfl h5).trans <|
    (runs_stps (q' := (19, [.ref 0, .int x1, .int x2, .int x3, .int x4, .null, .null], [.ref 0], w2)) 1 rfl).trans <|
    (runs_getD (pc := 22) (L := [.ref 0, .int x1, .int x2, .int x3, .int x4, .null, .null]) (st := []) (w := w2) rfl h6 (by decide)).trans <|
    (runs_stps (q' := (23, [.ref 0, .int x1, .int x2, .int x3, .int x4, .null, .null], [.int x3, .ref 20], w2)) 1 rfl).trans <|
    (runs_callV (rv := some (.int r3)) (w' := w3) rfl rfl rfl rfl h7).trans <|
    (runs_if_f (a := 37) (b := 29) (L := [.ref 0, .int x1, .int x2, .int x3, .int x4, .null, .null]) (st := []) (w := w3) rfl h8).trans <|
    (runs_stps (q' := (31, [.ref 0, .int x1, .int x2, .int x3, .int x4, .null, .null], [.int x4], w3)) 1 rfl).trans <|
    (runs_callS (rv := some (.int r4)) (w' := w4) rfl rfl rfl h9).trans <|
    (runs_if_t (a := 37) (b := 39) (L := [.ref 0, .int x1, .int x2, .int x3, .int x4, .null, .null]) (st := []) (w := w4) rfl h10).trans <|
    (runs_stps (q' := (38, [.null, .null, .null, .null, .null, .null, .null], [.int (-1)], w4)) 1 rfl).trans <|
    runs_ret rfl
  · exact (runs_stps (q' := (1, [.ref 0, .int x1, .int x2, .int x3, .int x4, .null, .null], [.ref 0], w)) 1 rfl).trans <|
    (runs_getD (pc := 4) (L := [.ref 0, .int x1, .int x2, .int x3, .int x4, .null, .null]) (st := []) (w := w) rfl h1 (by decide)).trans <|
    (runs_stps (q' := (5, [.ref 0, .int x1, .int x2, .int x3, .int x4, .null, .null], [.int x1, .ref 27], w)) 1 rfl).trans <|
    (runs_callV (rv := some (.int r1)) (w' := w1) rfl rfl rfl rfl h2).trans <|
    (runs_if_f (a := 37) (b := 11) (L := [.ref 0, .int x1, .int x2, .int x3, .int x4, .null, .null]) (st := []) (w := w1) rfl h3).trans <|
    (runs_stps (q' := (12, [.ref 0, .int x1, .int x2, .int x3, .int x4, .null, .null], [.int x2], w1)) 1 rfl).trans <|
    (runs_callS (rv := some (.int r2)) (w' := w2) rfl rfl rfl h4).trans <|
    (runs_if_f (a := 37) (b := 18) (L := [.ref 0, .int x1, .int x2, .int x3, .int x4, .null, .null]) (st := []) (w := w2) rfl h5).trans <|
    (runs_stps (q' := (19, [.ref 0, .int x1, .int x2, .int x3, .int x4, .null, .null], [.ref 0], w2)) 1 rfl).trans <|
    (runs_getD (pc := 22) (L := [.ref 0, .int x1, .int x2, .int x3, .int x4, .null, .null]) (st := []) (w := w2) rfl h6 (by decide)).trans <|
    (runs_stps (q' := (23, [.ref 0, .int x1, .int x2, .int x3, .int x4, .null, .null], [.int x3, .ref 27], w2)) 1 rfl).trans <|
    (runs_callV (rv := some (.int r3)) (w' := w3) rfl rfl rfl rfl h7).trans <|
    (runs_if_f (a := 37) (b := 29) (L := [.ref 0, .int x1, .int x2, .int x3, .int x4, .null, .null]) (st := []) (w := w3) rfl h8).trans <|
    (runs_stps (q' := (31, [.ref 0, .int x1, .int x2, .int x3, .int x4, .null, .null], [.int x4], w3)) 1 rfl).trans <|
    (runs_callS (rv := some (.int r4)) (w' := w4) rfl rfl rfl h9).trans <|
    (runs_if_t (a := 37) (b := 39) (L := [.ref 0, .int x1, .int x2, .int x3, .int x4, .null, .null]) (st := []) (w := w4) rfl h10).trans <|
    (runs_stps (q' := (38, [.null, .null, .null, .null, .null, .null, .null], [.int (-1)], w4)) 1 rfl).trans <|
    runs_ret rfl
theorem p_X8_takes_0T_R {ex : Ex} {p : Nat} {x1 : Int32} {x2 : Int32} {r1 : Int32} {w1 : Wd} {w : Wd} (hp : scp p) (h1 : w.1 0 5 = nI p) (h2 : ex 60 [.ref p, .int x1] w = some (some (.int r1), w1)) (h3 : r1 = 0) : runs (T_X8_takes ex) (0, [.ref 0, .int x1, .int x2, .null, .null, .null, .null], [], w) = some (some (.int (-1)), w1) := by
  rcases hp with rfl | rfl
  · exact (runs_stps (q' := (1, [.ref 0, .int x1, .int x2, .null, .null, .null, .null], [.ref 0], w)) 1 rfl).trans <|
    (runs_getD (pc := 4) (L := [.ref 0, .int x1, .int x2, .null, .null, .null, .null]) (st := []) (w := w) rfl h1 (by decide)).trans <|
    (runs_stps (q' := (5, [.ref 0, .int x1, .int x2, .null, .null, .null, .null], [.int x1, .ref 20], w)) 1 rfl).trans <|
    (runs_callV (rv := some (.int r1)) (w' := w1) rfl rfl rfl rfl h2).trans <|
    (runs_if_t (a := 18) (b := 11) (L := [.ref 0, .int x1, .int x2, .null, .null, .null, .null]) (st := []) (w := w1) rfl h3).trans <|
    (runs_stps (q' := (19, [.null, .null, .null, .null, .null, .null, .null], [.int (-1)], w1)) 1 rfl).trans <|
    runs_ret rfl
  · exact (runs_stps (q' := (1, [.ref 0, .int x1, .int x2, .null, .null, .null, .null], [.ref 0], w)) 1 rfl).trans <|
    (runs_getD (pc := 4) (L := [.ref 0, .int x1, .int x2, .null, .null, .null, .null]) (st := []) (w := w) rfl h1 (by decide)).trans <|
    (runs_stps (q' := (5, [.ref 0, .int x1, .int x2, .null, .null, .null, .null], [.int x1, .ref 27], w)) 1 rfl).trans <|
    (runs_callV (rv := some (.int r1)) (w' := w1) rfl rfl rfl rfl h2).trans <|
    (runs_if_t (a := 18) (b := 11) (L := [.ref 0, .int x1, .int x2, .null, .null, .null, .null]) (st := []) (w := w1) rfl h3).trans <|
    (runs_stps (q' := (19, [.null, .null, .null, .null, .null, .null, .null], [.int (-1)], w1)) 1 rfl).trans <|
    runs_ret rfl
theorem p_X8_takes_0FT_L43 {ex : Ex} {p : Nat} {x1 : Int32} {x2 : Int32} {r1 : Int32} {w1 : Wd} {r2 : Int32} {w2 : Wd} {r3 : Int32} {w3 : Wd} {r4 : Int32} {w4 : Wd} {w : Wd} (hp : scp p) (h1 : w.1 0 5 = nI p) (h2 : ex 60 [.ref p, .int x1] w = some (some (.int r1), w1)) (h3 : ¬ r1 = 0) (h4 : ex 130 [.int x2] w1 = some (some (.int r2), w2)) (h5 : ¬ r2 = 0) (h6 : ex 92 [.ref 4, .int x1] w2 = some (some (.int r3), w3)) (h7 : w3.1 0 5 = nI p) (h8 : ex 55 [.ref p] w3 = some (some (.int r4), w4)) : runs (T_X8_takes ex) (0, [.ref 0, .int x1, .int x2, .null, .null, .null, .null], [], w) = runs (T_X8_takes ex) (43, [.ref 0, .int x1, .int x2, .int r3, .int (1 <<< (r4 &&& 31)), .int 0, .null], [], w4) := by
  rcases hp with rfl | rfl
  · exact (runs_stps (q' := (1, [.ref 0, .int x1, .int x2, .null, .null, .null, .null], [.ref 0], w)) 1 rfl).trans <|
    (runs_getD (pc := 4) (L := [.ref 0, .int x1, .int x2, .null, .null, .null, .null]) (st := []) (w := w) rfl h1 (by decide)).trans <|
    (runs_stps (q' := (5, [.ref 0, .int x1, .int x2, .null, .null, .null, .null], [.int x1, .ref 20], w)) 1 rfl).trans <|
    (runs_callV (rv := some (.int r1)) (w' := w1) rfl rfl rfl rfl h2).trans <|
    (runs_if_f (a := 18) (b := 11) (L := [.ref 0, .int x1, .int x2, .null, .null, .null, .null]) (st := []) (w := w1) rfl h3).trans <|
    (runs_stps (q' := (12, [.ref 0, .int x1, .int x2, .null, .null, .null, .null], [.int x2], w1)) 1 rfl).trans <|
    (runs_callS (rv := some (.int r2)) (w' := w2) rfl rfl rfl h4).trans <|
    (runs_if_f (a := 18) (b := 20) (L := [.ref 0, .int x1, .int x2, .null, .null, .null, .null]) (st := []) (w := w2) rfl h5).trans <|
    (runs_stps (q' := (25, [.ref 0, .int x1, .int x2, .null, .null, .null, .null], [.int x1, .ref 4], w2)) 3 rfl).trans <|
    (runs_callV (rv := some (.int r3)) (w' := w3) rfl rfl rfl rfl h6).trans <|
    (runs_stps (q' := (31, [.ref 0, .int x1, .int x2, .int r3, .null, .null, .null], [.ref 0, .int 1], w3)) 3 rfl).trans <|
    (runs_getD (pc := 34) (L := [.ref 0, .int x1, .int x2, .int r3, .null, .null, .null]) (st := [.int 1]) (w := w3) rfl h7 (by decide)).trans <|
    (runs_callV (rv := some (.int r4)) (w' := w4) rfl rfl rfl rfl h8).trans <|
    (runs_stps (q' := (43, [.ref 0, .int x1, .int x2, .int r3, .int (1 <<< (r4 &&& 31)), .int 0, .null], [], w4)) 4 rfl).trans <|
    rfl
  · exact (runs_stps (q' := (1, [.ref 0, .int x1, .int x2, .null, .null, .null, .null], [.ref 0], w)) 1 rfl).trans <|
    (runs_getD (pc := 4) (L := [.ref 0, .int x1, .int x2, .null, .null, .null, .null]) (st := []) (w := w) rfl h1 (by decide)).trans <|
    (runs_stps (q' := (5, [.ref 0, .int x1, .int x2, .null, .null, .null, .null], [.int x1, .ref 27], w)) 1 rfl).trans <|
    (runs_callV (rv := some (.int r1)) (w' := w1) rfl rfl rfl rfl h2).trans <|
    (runs_if_f (a := 18) (b := 11) (L := [.ref 0, .int x1, .int x2, .null, .null, .null, .null]) (st := []) (w := w1) rfl h3).trans <|
    (runs_stps (q' := (12, [.ref 0, .int x1, .int x2, .null, .null, .null, .null], [.int x2], w1)) 1 rfl).trans <|
    (runs_callS (rv := some (.int r2)) (w' := w2) rfl rfl rfl h4).trans <|
    (runs_if_f (a := 18) (b := 20) (L := [.ref 0, .int x1, .int x2, .null, .null, .null, .null]) (st := []) (w := w2) rfl h5).trans <|
    (runs_stps (q' := (25, [.ref 0, .int x1, .int x2, .null, .null, .null, .null], [.int x1, .ref 4], w2)) 3 rfl).trans <|
    (runs_callV (rv := some (.int r3)) (w' := w3) rfl rfl rfl rfl h6).trans <|
    (runs_stps (q' := (31, [.ref 0, .int x1, .int x2, .int r3, .null, .null, .null], [.ref 0, .int 1], w3)) 3 rfl).trans <|
    (runs_getD (pc := 34) (L := [.ref 0, .int x1, .int x2, .int r3, .null, .null, .null]) (st := [.int 1]) (w := w3) rfl h7 (by decide)).trans <|
    (runs_callV (rv := some (.int r4)) (w' := w4) rfl rfl rfl rfl h8).trans <|
    (runs_stps (q' := (43, [.ref 0, .int x1, .int x2, .int r3, .int (1 <<< (r4 &&& 31)), .int 0, .null], [], w4)) 4 rfl).trans <|
    rfl
theorem p_X8_takes_0FF_R {ex : Ex} {p : Nat} {x1 : Int32} {x2 : Int32} {r1 : Int32} {w1 : Wd} {r2 : Int32} {w2 : Wd} {w : Wd} (hp : scp p) (h1 : w.1 0 5 = nI p) (h2 : ex 60 [.ref p, .int x1] w = some (some (.int r1), w1)) (h3 : ¬ r1 = 0) (h4 : ex 130 [.int x2] w1 = some (some (.int r2), w2)) (h5 : r2 = 0) : runs (T_X8_takes ex) (0, [.ref 0, .int x1, .int x2, .null, .null, .null, .null], [], w) = some (some (.int (-1)), w2) := by
  rcases hp with rfl | rfl
  · exact (runs_stps (q' := (1, [.ref 0, .int x1, .int x2, .null, .null, .null, .null], [.ref 0], w)) 1 rfl).trans <|
    (runs_getD (pc := 4) (L := [.ref 0, .int x1, .int x2, .null, .null, .null, .null]) (st := []) (w := w) rfl h1 (by decide)).trans <|
    (runs_stps (q' := (5, [.ref 0, .int x1, .int x2, .null, .null, .null, .null], [.int x1, .ref 20], w)) 1 rfl).trans <|
    (runs_callV (rv := some (.int r1)) (w' := w1) rfl rfl rfl rfl h2).trans <|
    (runs_if_f (a := 18) (b := 11) (L := [.ref 0, .int x1, .int x2, .null, .null, .null, .null]) (st := []) (w := w1) rfl h3).trans <|
    (runs_stps (q' := (12, [.ref 0, .int x1, .int x2, .null, .null, .null, .null], [.int x2], w1)) 1 rfl).trans <|
    (runs_callS (rv := some (.int r2)) (w' := w2) rfl rfl rfl h4).trans <|
    (runs_if_t (a := 18) (b := 20) (L := [.ref 0, .int x1, .int x2, .null, .null, .null, .null]) (st := []) (w := w2) rfl h5).trans <|
    (runs_stps (q' := (19, [.null, .null, .null, .null, .null, .null, .null], [.int (-1)], w2)) 1 rfl).trans <|
    runs_ret rfl
  · exact (runs_stps (q' := (1, [.ref 0, .int x1, .int x2, .null, .null, .null, .null], [.ref 0], w)) 1 rfl).trans <|
    (runs_getD (pc := 4) (L := [.ref 0, .int x1, .int x2, .null, .null, .null, .null]) (st := []) (w := w) rfl h1 (by decide)).trans <|
    (runs_stps (q' := (5, [.ref 0, .int x1, .int x2, .null, .null, .null, .null], [.int x1, .ref 27], w)) 1 rfl).trans <|
    (runs_callV (rv := some (.int r1)) (w' := w1) rfl rfl rfl rfl h2).trans <|
    (runs_if_f (a := 18) (b := 11) (L := [.ref 0, .int x1, .int x2, .null, .null, .null, .null]) (st := []) (w := w1) rfl h3).trans <|
    (runs_stps (q' := (12, [.ref 0, .int x1, .int x2, .null, .null, .null, .null], [.int x2], w1)) 1 rfl).trans <|
    (runs_callS (rv := some (.int r2)) (w' := w2) rfl rfl rfl h4).trans <|
    (runs_if_t (a := 18) (b := 20) (L := [.ref 0, .int x1, .int x2, .null, .null, .null, .null]) (st := []) (w := w2) rfl h5).trans <|
    (runs_stps (q' := (19, [.null, .null, .null, .null, .null, .null, .null], [.int (-1)], w2)) 1 rfl).trans <|
    runs_ret rfl
theorem p_X8_takes_43T_R {ex : Ex} {p : Nat} {v1 : Value} {x2 : Int32} {x3 : Int32} {x4 : Int32} {x5 : Int32} {v6 : Value} {w : Wd} (hp : scp p) (h1 : 3 < x5) : runs (T_X8_takes ex) (43, [.ref 0, v1, .int x2, .int x3, .int x4, .int x5, v6], [], w) = some (some (.int (-9)), w) := by
  rcases hp with rfl | rfl
  · exact (runs_stps (q' := (46, [.ref 0, .null, .int x2, .int x3, .int x4, .int x5, .null], [.int 3, .int x5], w)) 2 rfl).trans <|
    (runs_if_t (a := 105) (b := 49) (L := [.ref 0, .null, .int x2, .int x3, .int x4, .int x5, .null]) (st := []) (w := w) rfl h1).trans <|
    (runs_stps (q' := (107, [.null, .null, .null, .null, .null, .null, .null], [.int (-9)], w)) 1 rfl).trans <|
    runs_ret rfl
  · exact (runs_stps (q' := (46, [.ref 0, .null, .int x2, .int x3, .int x4, .int x5, .null], [.int 3, .int x5], w)) 2 rfl).trans <|
    (runs_if_t (a := 105) (b := 49) (L := [.ref 0, .null, .int x2, .int x3, .int x4, .int x5, .null]) (st := []) (w := w) rfl h1).trans <|
    (runs_stps (q' := (107, [.null, .null, .null, .null, .null, .null, .null], [.int (-9)], w)) 1 rfl).trans <|
    runs_ret rfl
theorem p_X8_takes_43F_L52 {ex : Ex} {p : Nat} {v1 : Value} {x2 : Int32} {x3 : Int32} {x4 : Int32} {x5 : Int32} {v6 : Value} {w : Wd} (hp : scp p) (h1 : ¬ 3 < x5) : runs (T_X8_takes ex) (43, [.ref 0, v1, .int x2, .int x3, .int x4, .int x5, v6], [], w) = runs (T_X8_takes ex) (52, [.ref 0, .null, .int x2, .int x3, .int x4, .int x5, .int 0], [], w) := by
  rcases hp with rfl | rfl
  · exact (runs_stps (q' := (46, [.ref 0, .null, .int x2, .int x3, .int x4, .int x5, .null], [.int 3, .int x5], w)) 2 rfl).trans <|
    (runs_if_f (a := 105) (b := 49) (L := [.ref 0, .null, .int x2, .int x3, .int x4, .int x5, .null]) (st := []) (w := w) rfl h1).trans <|
    (runs_stps (q' := (52, [.ref 0, .null, .int x2, .int x3, .int x4, .int x5, .int 0], [], w)) 2 rfl).trans <|
    rfl
  · exact (runs_stps (q' := (46, [.ref 0, .null, .int x2, .int x3, .int x4, .int x5, .null], [.int 3, .int x5], w)) 2 rfl).trans <|
    (runs_if_f (a := 105) (b := 49) (L := [.ref 0, .null, .int x2, .int x3, .int x4, .int x5, .null]) (st := []) (w := w) rfl h1).trans <|
    (runs_stps (q' := (52, [.ref 0, .null, .int x2, .int x3, .int x4, .int x5, .int 0], [], w)) 2 rfl).trans <|
    rfl
theorem p_X8_takes_52T_L43 {ex : Ex} {p : Nat} {v1 : Value} {x2 : Int32} {x3 : Int32} {x4 : Int32} {x5 : Int32} {x6 : Int32} {w : Wd} (hp : scp p) (h1 : x4 ≤ x6) : runs (T_X8_takes ex) (52, [.ref 0, v1, .int x2, .int x3, .int x4, .int x5, .int x6], [], w) = runs (T_X8_takes ex) (43, [.ref 0, .null, .int x2, .int x3, .int x4, .int (x5 + 1), .null], [], w) := by
  rcases hp with rfl | rfl
  · exact (runs_stps (q' := (56, [.ref 0, .null, .int x2, .int x3, .int x4, .int x5, .int x6], [.int x4, .int x6], w)) 2 rfl).trans <|
    (runs_if_t (a := 99) (b := 59) (L := [.ref 0, .null, .int x2, .int x3, .int x4, .int x5, .int x6]) (st := []) (w := w) rfl h1).trans <|
    (runs_stps (q' := (43, [.ref 0, .null, .int x2, .int x3, .int x4, .int (x5 + 1), .null], [], w)) 2 rfl).trans <|
    rfl
  · exact (runs_stps (q' := (56, [.ref 0, .null, .int x2, .int x3, .int x4, .int x5, .int x6], [.int x4, .int x6], w)) 2 rfl).trans <|
    (runs_if_t (a := 99) (b := 59) (L := [.ref 0, .null, .int x2, .int x3, .int x4, .int x5, .int x6]) (st := []) (w := w) rfl h1).trans <|
    (runs_stps (q' := (43, [.ref 0, .null, .int x2, .int x3, .int x4, .int (x5 + 1), .null], [], w)) 2 rfl).trans <|
    rfl
theorem p_X8_takes_52FT_L52 {ex : Ex} {p : Nat} {v1 : Value} {x2 : Int32} {x3 : Int32} {x4 : Int32} {x5 : Int32} {x6 : Int32} {r1 : Int32} {w1 : Wd} {w : Wd} (hp : scp p) (h1 : ¬ x4 ≤ x6) (h2 : ex 198 [.int x6] w = some (some (.int r1), w1)) (h3 : ¬ r1 = x5) : runs (T_X8_takes ex) (52, [.ref 0, v1, .int x2, .int x3, .int x4, .int x5, .int x6], [], w) = runs (T_X8_takes ex) (52, [.ref 0, .null, .int x2, .int x3, .int x4, .int x5, .int (x6 + 1)], [], w1) := by
  rcases hp with rfl | rfl
  · exact (runs_stps (q' := (56, [.ref 0, .null, .int x2, .int x3, .int x4, .int x5, .int x6], [.int x4, .int x6], w)) 2 rfl).trans <|
    (runs_if_f (a := 99) (b := 59) (L := [.ref 0, .null, .int x2, .int x3, .int x4, .int x5, .int x6]) (st := []) (w := w) rfl h1).trans <|
    (runs_stps (q' := (61, [.ref 0, .null, .int x2, .int x3, .int x4, .int x5, .int x6], [.int x6], w)) 1 rfl).trans <|
    (runs_callS (rv := some (.int r1)) (w' := w1) rfl rfl rfl h2).trans <|
    (runs_stps (q' := (66, [.ref 0, .null, .int x2, .int x3, .int x4, .int x5, .int x6], [.int x5, .int r1], w1)) 1 rfl).trans <|
    (runs_if_f (a := 69) (b := 93) (L := [.ref 0, .null, .int x2, .int x3, .int x4, .int x5, .int x6]) (st := []) (w := w1) rfl h3).trans <|
    (runs_stps (q' := (52, [.ref 0, .null, .int x2, .int x3, .int x4, .int x5, .int (x6 + 1)], [], w1)) 2 rfl).trans <|
    rfl
  · exact (runs_stps (q' := (56, [.ref 0, .null, .int x2, .int x3, .int x4, .int x5, .int x6], [.int x4, .int x6], w)) 2 rfl).trans <|
    (runs_if_f (a := 99) (b := 59) (L := [.ref 0, .null, .int x2, .int x3, .int x4, .int x5, .int x6]) (st := []) (w := w) rfl h1).trans <|
    (runs_stps (q' := (61, [.ref 0, .null, .int x2, .int x3, .int x4, .int x5, .int x6], [.int x6], w)) 1 rfl).trans <|
    (runs_callS (rv := some (.int r1)) (w' := w1) rfl rfl rfl h2).trans <|
    (runs_stps (q' := (66, [.ref 0, .null, .int x2, .int x3, .int x4, .int x5, .int x6], [.int x5, .int r1], w1)) 1 rfl).trans <|
    (runs_if_f (a := 69) (b := 93) (L := [.ref 0, .null, .int x2, .int x3, .int x4, .int x5, .int x6]) (st := []) (w := w1) rfl h3).trans <|
    (runs_stps (q' := (52, [.ref 0, .null, .int x2, .int x3, .int x4, .int x5, .int (x6 + 1)], [], w1)) 2 rfl).trans <|
    rfl
theorem p_X8_takes_52FFT_L52 {ex : Ex} {p : Nat} {v1 : Value} {x2 : Int32} {x3 : Int32} {x4 : Int32} {x5 : Int32} {x6 : Int32} {r1 : Int32} {w1 : Wd} {r2 : Int32} {w2 : Wd} {r3 : Int32} {w3 : Wd} {w : Wd} (hp : scp p) (h1 : ¬ x4 ≤ x6) (h2 : ex 198 [.int x6] w = some (some (.int r1), w1)) (h3 : r1 = x5) (h4 : w1.1 0 5 = nI p) (h5 : w1.1 0 5 = nI p) (h6 : ex 69 [.ref p, .int x6] w1 = some (some (.int r2), w2)) (h7 : ex 78 [.ref p, .int x3, .int x2, .int r2] w2 = some (some (.int r3), w3)) (h8 : r3 = 0) : runs (T_X8_takes ex) (52, [.ref 0, v1, .int x2, .int x3, .int x4, .int x5, .int x6], [], w) = runs (T_X8_takes ex) (52, [.ref 0, .null, .int x2, .int x3, .int x4, .int x5, .int (x6 + 1)], [], w3) := by
  rcases hp with rfl | rfl
  · exact (runs_stps (q' := (56, [.ref 0, .null, .int x2, .int x3, .int x4, .int x5, .int x6], [.int x4, .int x6], w)) 2 rfl).trans <|
    (runs_if_f (a := 99) (b := 59) (L := [.ref 0, .null, .int x2, .int x3, .int x4, .int x5, .int x6]) (st := []) (w := w) rfl h1).trans <|
    (runs_stps (q' := (61, [.ref 0, .null, .int x2, .int x3, .int x4, .int x5, .int x6], [.int x6], w)) 1 rfl).trans <|
    (runs_callS (rv := some (.int r1)) (w' := w1) rfl rfl rfl h2).trans <|
    (runs_stps (q' := (66, [.ref 0, .null, .int x2, .int x3, .int x4, .int x5, .int x6], [.int x5, .int r1], w1)) 1 rfl).trans <|
    (runs_if_t (a := 69) (b := 93) (L := [.ref 0, .null, .int x2, .int x3, .int x4, .int x5, .int x6]) (st := []) (w := w1) rfl h3).trans <|
    (runs_stps (q' := (70, [.ref 0, .null, .int x2, .int x3, .int x4, .int x5, .int x6], [.ref 0], w1)) 1 rfl).trans <|
    (runs_getD (pc := 73) (L := [.ref 0, .null, .int x2, .int x3, .int x4, .int x5, .int x6]) (st := []) (w := w1) rfl h4 (by decide)).trans <|
    (runs_stps (q' := (76, [.ref 0, .null, .int x2, .int x3, .int x4, .int x5, .int x6], [.ref 0, .int x2, .int x3, .ref 20], w1)) 3 rfl).trans <|
    (runs_getD (pc := 79) (L := [.ref 0, .null, .int x2, .int x3, .int x4, .int x5, .int x6]) (st := [.int x2, .int x3, .ref 20]) (w := w1) rfl h5 (by decide)).trans <|
    (runs_stps (q' := (81, [.ref 0, .null, .int x2, .int x3, .int x4, .int x5, .int x6], [.int x6, .ref 20, .int x2, .int x3, .ref 20], w1)) 1 rfl).trans <|
    (runs_callV (rv := some (.int r2)) (w' := w2) rfl rfl rfl rfl h6).trans <|
    (runs_callV (rv := some (.int r3)) (w' := w3) rfl rfl rfl rfl h7).trans <|
    (runs_if_t (a := 93) (b := 90) (L := [.ref 0, .null, .int x2, .int x3, .int x4, .int x5, .int x6]) (st := []) (w := w3) rfl h8).trans <|
    (runs_stps (q' := (52, [.ref 0, .null, .int x2, .int x3, .int x4, .int x5, .int (x6 + 1)], [], w3)) 2 rfl).trans <|
    rfl
  · exact (runs_stps (q' := (56, [.ref 0, .null, .int x2, .int x3, .int x4, .int x5, .int x6], [.int x4, .int x6], w)) 2 rfl).trans <|
    (runs_if_f (a := 99) (b := 59) (L := [.ref 0, .null, .int x2, .int x3, .int x4, .int x5, .int x6]) (st := []) (w := w) rfl h1).trans <|
    (runs_stps (q' := (61, [.ref 0, .null, .int x2, .int x3, .int x4, .int x5, .int x6], [.int x6], w)) 1 rfl).trans <|
    (runs_callS (rv := some (.int r1)) (w' := w1) rfl rfl rfl h2).trans <|
    (runs_stps (q' := (66, [.ref 0, .null, .int x2, .int x3, .int x4, .int x5, .int x6], [.int x5, .int r1], w1)) 1 rfl).trans <|
    (runs_if_t (a := 69) (b := 93) (L := [.ref 0, .null, .int x2, .int x3, .int x4, .int x5, .int x6]) (st := []) (w := w1) rfl h3).trans <|
    (runs_stps (q' := (70, [.ref 0, .null, .int x2, .int x3, .int x4, .int x5, .int x6], [.ref 0], w1)) 1 rfl).trans <|
    (runs_getD (pc := 73) (L := [.ref 0, .null, .int x2, .int x3, .int x4, .int x5, .int x6]) (st := []) (w := w1) rfl h4 (by decide)).trans <|
    (runs_stps (q' := (76, [.ref 0, .null, .int x2, .int x3, .int x4, .int x5, .int x6], [.ref 0, .int x2, .int x3, .ref 27], w1)) 3 rfl).trans <|
    (runs_getD (pc := 79) (L := [.ref 0, .null, .int x2, .int x3, .int x4, .int x5, .int x6]) (st := [.int x2, .int x3, .ref 27]) (w := w1) rfl h5 (by decide)).trans <|
    (runs_stps (q' := (81, [.ref 0, .null, .int x2, .int x3, .int x4, .int x5, .int x6], [.int x6, .ref 27, .int x2, .int x3, .ref 27], w1)) 1 rfl).trans <|
    (runs_callV (rv := some (.int r2)) (w' := w2) rfl rfl rfl rfl h6).trans <|
    (runs_callV (rv := some (.int r3)) (w' := w3) rfl rfl rfl rfl h7).trans <|
    (runs_if_t (a := 93) (b := 90) (L := [.ref 0, .null, .int x2, .int x3, .int x4, .int x5, .int x6]) (st := []) (w := w3) rfl h8).trans <|
    (runs_stps (q' := (52, [.ref 0, .null, .int x2, .int x3, .int x4, .int x5, .int (x6 + 1)], [], w3)) 2 rfl).trans <|
    rfl
theorem p_X8_takes_52FFF_R {ex : Ex} {p : Nat} {v1 : Value} {x2 : Int32} {x3 : Int32} {x4 : Int32} {x5 : Int32} {x6 : Int32} {r1 : Int32} {w1 : Wd} {r2 : Int32} {w2 : Wd} {r3 : Int32} {w3 : Wd} {w : Wd} (hp : scp p) (h1 : ¬ x4 ≤ x6) (h2 : ex 198 [.int x6] w = some (some (.int r1), w1)) (h3 : r1 = x5) (h4 : w1.1 0 5 = nI p) (h5 : w1.1 0 5 = nI p) (h6 : ex 69 [.ref p, .int x6] w1 = some (some (.int r2), w2)) (h7 : ex 78 [.ref p, .int x3, .int x2, .int r2] w2 = some (some (.int r3), w3)) (h8 : ¬ r3 = 0) : runs (T_X8_takes ex) (52, [.ref 0, v1, .int x2, .int x3, .int x4, .int x5, .int x6], [], w) = some (some (.int x6), w3) := by
  rcases hp with rfl | rfl
  · exact (runs_stps (q' := (56, [.ref 0, .null, .int x2, .int x3, .int x4, .int x5, .int x6], [.int x4, .int x6], w)) 2 rfl).trans <|
    (runs_if_f (a := 99) (b := 59) (L := [.ref 0, .null, .int x2, .int x3, .int x4, .int x5, .int x6]) (st := []) (w := w) rfl h1).trans <|
    (runs_stps (q' := (61, [.ref 0, .null, .int x2, .int x3, .int x4, .int x5, .int x6], [.int x6], w)) 1 rfl).trans <|
    (runs_callS (rv := some (.int r1)) (w' := w1) rfl rfl rfl h2).trans <|
    (runs_stps (q' := (66, [.ref 0, .null, .int x2, .int x3, .int x4, .int x5, .int x6], [.int x5, .int r1], w1)) 1 rfl).trans <|
    (runs_if_t (a := 69) (b := 93) (L := [.ref 0, .null, .int x2, .int x3, .int x4, .int x5, .int x6]) (st := []) (w := w1) rfl h3).trans <|
    (runs_stps (q' := (70, [.ref 0, .null, .int x2, .int x3, .int x4, .int x5, .int x6], [.ref 0], w1)) 1 rfl).trans <|
    (runs_getD (pc := 73) (L := [.ref 0, .null, .int x2, .int x3, .int x4, .int x5, .int x6]) (st := []) (w := w1) rfl h4 (by decide)).trans <|
    (runs_stps (q' := (76, [.ref 0, .null, .int x2, .int x3, .int x4, .int x5, .int x6], [.ref 0, .int x2, .int x3, .ref 20], w1)) 3 rfl).trans <|
    (runs_getD (pc := 79) (L := [.ref 0, .null, .int x2, .int x3, .int x4, .int x5, .int x6]) (st := [.int x2, .int x3, .ref 20]) (w := w1) rfl h5 (by decide)).trans <|
    (runs_stps (q' := (81, [.ref 0, .null, .int x2, .int x3, .int x4, .int x5, .int x6], [.int x6, .ref 20, .int x2, .int x3, .ref 20], w1)) 1 rfl).trans <|
    (runs_callV (rv := some (.int r2)) (w' := w2) rfl rfl rfl rfl h6).trans <|
    (runs_callV (rv := some (.int r3)) (w' := w3) rfl rfl rfl rfl h7).trans <|
    (runs_if_f (a := 93) (b := 90) (L := [.ref 0, .null, .int x2, .int x3, .int x4, .int x5, .int x6]) (st := []) (w := w3) rfl h8).trans <|
    (runs_stps (q' := (92, [.ref 0, .null, .int x2, .int x3, .int x4, .int x5, .int x6], [.int x6], w3)) 1 rfl).trans <|
    runs_ret rfl
  · exact (runs_stps (q' := (56, [.ref 0, .null, .int x2, .int x3, .int x4, .int x5, .int x6], [.int x4, .int x6], w)) 2 rfl).trans <|
    (runs_if_f (a := 99) (b := 59) (L := [.ref 0, .null, .int x2, .int x3, .int x4, .int x5, .int x6]) (st := []) (w := w) rfl h1).trans <|
    (runs_stps (q' := (61, [.ref 0, .null, .int x2, .int x3, .int x4, .int x5, .int x6], [.int x6], w)) 1 rfl).trans <|
    (runs_callS (rv := some (.int r1)) (w' := w1) rfl rfl rfl h2).trans <|
    (runs_stps (q' := (66, [.ref 0, .null, .int x2, .int x3, .int x4, .int x5, .int x6], [.int x5, .int r1], w1)) 1 rfl).trans <|
    (runs_if_t (a := 69) (b := 93) (L := [.ref 0, .null, .int x2, .int x3, .int x4, .int x5, .int x6]) (st := []) (w := w1) rfl h3).trans <|
    (runs_stps (q' := (70, [.ref 0, .null, .int x2, .int x3, .int x4, .int x5, .int x6], [.ref 0], w1)) 1 rfl).trans <|
    (runs_getD (pc := 73) (L := [.ref 0, .null, .int x2, .int x3, .int x4, .int x5, .int x6]) (st := []) (w := w1) rfl h4 (by decide)).trans <|
    (runs_stps (q' := (76, [.ref 0, .null, .int x2, .int x3, .int x4, .int x5, .int x6], [.ref 0, .int x2, .int x3, .ref 27], w1)) 3 rfl).trans <|
    (runs_getD (pc := 79) (L := [.ref 0, .null, .int x2, .int x3, .int x4, .int x5, .int x6]) (st := [.int x2, .int x3, .ref 27]) (w := w1) rfl h5 (by decide)).trans <|
    (runs_stps (q' := (81, [.ref 0, .null, .int x2, .int x3, .int x4, .int x5, .int x6], [.int x6, .ref 27, .int x2, .int x3, .ref 27], w1)) 1 rfl).trans <|
    (runs_callV (rv := some (.int r2)) (w' := w2) rfl rfl rfl rfl h6).trans <|
    (runs_callV (rv := some (.int r3)) (w' := w3) rfl rfl rfl rfl h7).trans <|
    (runs_if_f (a := 93) (b := 90) (L := [.ref 0, .null, .int x2, .int x3, .int x4, .int x5, .int x6]) (st := []) (w := w3) rfl h8).trans <|
    (runs_stps (q' := (92, [.ref 0, .null, .int x2, .int x3, .int x4, .int x5, .int x6], [.int x6], w3)) 1 rfl).trans <|
    runs_ret rfl
theorem p_X8_learn_0T_R {ex : Ex} {p : Nat} {x1 : Int32} {x2 : Int32} {r1 : Int32} {w1 : Wd} {w : Wd} (hp : scp p) (h1 : ex 130 [.int x1] w = some (some (.int r1), w1)) (h2 : r1 = 0) : runs (T_X8_learn ex) (0, [.ref 0, .int x1, .int x2, .null], [], w) = some (some (.int (-1)), w1) := by
  rcases hp with rfl | rfl
  · exact (runs_stps (q' := (1, [.ref 0, .int x1, .int x2, .null], [.int x1], w)) 1 rfl).trans <|
    (runs_callS (rv := some (.int r1)) (w' := w1) rfl rfl rfl h1).trans <|
    (runs_if_t (a := 14) (b := 7) (L := [.ref 0, .int x1, .int x2, .null]) (st := []) (w := w1) rfl h2).trans <|
    (runs_stps (q' := (15, [.null, .null, .null, .null], [.int (-1)], w1)) 1 rfl).trans <|
    runs_ret rfl
  · exact (runs_stps (q' := (1, [.ref 0, .int x1, .int x2, .null], [.int x1], w)) 1 rfl).trans <|
    (runs_callS (rv := some (.int r1)) (w' := w1) rfl rfl rfl h1).trans <|
    (runs_if_t (a := 14) (b := 7) (L := [.ref 0, .int x1, .int x2, .null]) (st := []) (w := w1) rfl h2).trans <|
    (runs_stps (q' := (15, [.null, .null, .null, .null], [.int (-1)], w1)) 1 rfl).trans <|
    runs_ret rfl
theorem p_X8_learn_0FTTT_R {ex : Ex} {p : Nat} {x1 : Int32} {x2 : Int32} {r1 : Int32} {w1 : Wd} {r2 : Int32} {w2 : Wd} {r3 : Int32} {w3 : Wd} {w : Wd} (hp : scp p) (h1 : ex 130 [.int x1] w = some (some (.int r1), w1)) (h2 : ¬ r1 = 0) (h3 : ex 131 [.int x2] w1 = some (some (.int r2), w2)) (h4 : ¬ r2 = 0) (h5 : w2.1 0 5 = nI p) (h6 : ex 79 [.ref p, .int x1] w2 = some (some (.int r3), w3)) (h7 : 0 ≤ r3) (h8 : ¬ x2 = 0) : runs (T_X8_learn ex) (0, [.ref 0, .int x1, .int x2, .null], [], w) = some (some (.int r3), w3) := by
  rcases hp with rfl | rfl
  · exact (runs_stps (q' := (1, [.ref 0, .int x1, .int x2, .null], [.int x1], w)) 1 rfl).trans <|
    (runs_callS (rv := some (.int r1)) (w' := w1) rfl rfl rfl h1).trans <|
    (runs_if_f (a := 14) (b := 7) (L := [.ref 0, .int x1, .int x2, .null]) (st := []) (w := w1) rfl h2).trans <|
    (runs_stps (q' := (8, [.ref 0, .int x1, .int x2, .null], [.int x2], w1)) 1 rfl).trans <|
    (runs_callS (rv := some (.int r2)) (w' := w2) rfl rfl rfl h3).trans <|
    (runs_if_f (a := 14) (b := 16) (L := [.ref 0, .int x1, .int x2, .null]) (st := []) (w := w2) rfl h4).trans <|
    (runs_stps (q' := (17, [.ref 0, .int x1, .int x2, .null], [.ref 0], w2)) 1 rfl).trans <|
    (runs_getD (pc := 20) (L := [.ref 0, .int x1, .int x2, .null]) (st := []) (w := w2) rfl h5 (by decide)).trans <|
    (runs_stps (q' := (21, [.ref 0, .int x1, .int x2, .null], [.int x1, .ref 20], w2)) 1 rfl).trans <|
    (runs_callV (rv := some (.int r3)) (w' := w3) rfl rfl rfl rfl h6).trans <|
    (runs_stps (q' := (26, [.ref 0, .int x1, .int x2, .int r3], [.int r3], w3)) 2 rfl).trans <|
    (runs_if_t (a := 32) (b := 29) (L := [.ref 0, .int x1, .int x2, .int r3]) (st := []) (w := w3) rfl h7).trans <|
    (runs_stps (q' := (33, [.null, .null, .int x2, .int r3], [.int x2], w3)) 1 rfl).trans <|
    (runs_if_f (a := 36) (b := 43) (L := [.null, .null, .int x2, .int r3]) (st := []) (w := w3) rfl h8).trans <|
    (runs_stps (q' := (44, [.null, .null, .null, .int r3], [.int r3], w3)) 1 rfl).trans <|
    runs_ret rfl
  · exact (runs_stps (q' := (1, [.ref 0, .int x1, .int x2, .null], [.int x1], w)) 1 rfl).trans <|
    (runs_callS (rv := some (.int r1)) (w' := w1) rfl rfl rfl h1).trans <|
    (runs_if_f (a := 14) (b := 7) (L := [.ref 0, .int x1, .int x2, .null]) (st := []) (w := w1) rfl h2).trans <|
    (runs_stps (q' := (8, [.ref 0, .int x1, .int x2, .null], [.int x2], w1)) 1 rfl).trans <|
    (runs_callS (rv := some (.int r2)) (w' := w2) rfl rfl rfl h3).trans <|
    (runs_if_f (a := 14) (b := 16) (L := [.ref 0, .int x1, .int x2, .null]) (st := []) (w := w2) rfl h4).trans <|
    (runs_stps (q' := (17, [.ref 0, .int x1, .int x2, .null], [.ref 0], w2)) 1 rfl).trans <|
    (runs_getD (pc := 20) (L := [.ref 0, .int x1, .int x2, .null]) (st := []) (w := w2) rfl h5 (by decide)).trans <|
    (runs_stps (q' := (21, [.ref 0, .int x1, .int x2, .null], [.int x1, .ref 27], w2)) 1 rfl).trans <|
    (runs_callV (rv := some (.int r3)) (w' := w3) rfl rfl rfl rfl h6).trans <|
    (runs_stps (q' := (26, [.ref 0, .int x1, .int x2, .int r3], [.int r3], w3)) 2 rfl).trans <|
    (runs_if_t (a := 32) (b := 29) (L := [.ref 0, .int x1, .int x2, .int r3]) (st := []) (w := w3) rfl h7).trans <|
    (runs_stps (q' := (33, [.null, .null, .int x2, .int r3], [.int x2], w3)) 1 rfl).trans <|
    (runs_if_f (a := 36) (b := 43) (L := [.null, .null, .int x2, .int r3]) (st := []) (w := w3) rfl h8).trans <|
    (runs_stps (q' := (44, [.null, .null, .null, .int r3], [.int r3], w3)) 1 rfl).trans <|
    runs_ret rfl
theorem p_X8_learn_0FTTF_R {ex : Ex} {p : Nat} {x1 : Int32} {x2 : Int32} {r1 : Int32} {w1 : Wd} {r2 : Int32} {w2 : Wd} {r3 : Int32} {w3 : Wd} {r4 : Int32} {w4 : Wd} {w : Wd} (hp : scp p) (h1 : ex 130 [.int x1] w = some (some (.int r1), w1)) (h2 : ¬ r1 = 0) (h3 : ex 131 [.int x2] w1 = some (some (.int r2), w2)) (h4 : ¬ r2 = 0) (h5 : w2.1 0 5 = nI p) (h6 : ex 79 [.ref p, .int x1] w2 = some (some (.int r3), w3)) (h7 : 0 ≤ r3) (h8 : x2 = 0) (h9 : ex 198 [.int r3] w3 = some (some (.int r4), w4)) : runs (T_X8_learn ex) (0, [.ref 0, .int x1, .int x2, .null], [], w) = some (some (.int r4), w4) := by
  rcases hp with rfl | rfl
  · exact (runs_stps (q' := (1, [.ref 0, .int x1, .int x2, .null], [.int x1], w)) 1 rfl).trans <|
    (runs_callS (rv := some (.int r1)) (w' := w1) rfl rfl rfl h1).trans <|
    (runs_if_f (a := 14) (b := 7) (L := [.ref 0, .int x1, .int x2, .null]) (st := []) (w := w1) rfl h2).trans <|
    (runs_stps (q' := (8, [.ref 0, .int x1, .int x2, .null], [.int x2], w1)) 1 rfl).trans <|
    (runs_callS (rv := some (.int r2)) (w' := w2) rfl rfl rfl h3).trans <|
    (runs_if_f (a := 14) (b := 16) (L := [.ref 0, .int x1, .int x2, .null]) (st := []) (w := w2) rfl h4).trans <|
    (runs_stps (q' := (17, [.ref 0, .int x1, .int x2, .null], [.ref 0], w2)) 1 rfl).trans <|
    (runs_getD (pc := 20) (L := [.ref 0, .int x1, .int x2, .null]) (st := []) (w := w2) rfl h5 (by decide)).trans <|
    (runs_stps (q' := (21, [.ref 0, .int x1, .int x2, .null], [.int x1, .ref 20], w2)) 1 rfl).trans <|
    (runs_callV (rv := some (.int r3)) (w' := w3) rfl rfl rfl rfl h6).trans <|
    (runs_stps (q' := (26, [.ref 0, .int x1, .int x2, .int r3], [.int r3], w3)) 2 rfl).trans <|
    (runs_if_t (a := 32) (b := 29) (L := [.ref 0, .int x1, .int x2, .int r3]) (st := []) (w := w3) rfl h7).trans <|
    (runs_stps (q' := (33, [.null, .null, .int x2, .int r3], [.int x2], w3)) 1 rfl).trans <|
    (runs_if_t (a := 36) (b := 43) (L := [.null, .null, .int x2, .int r3]) (st := []) (w := w3) rfl h8).trans <|
    (runs_stps (q' := (37, [.null, .null, .int x2, .int r3], [.int r3], w3)) 1 rfl).trans <|
    (runs_callS (rv := some (.int r4)) (w' := w4) rfl rfl rfl h9).trans <|
    (runs_stps (q' := (44, [.null, .null, .int x2, .int r3], [.int r4], w4)) 1 rfl).trans <|
    runs_ret rfl
  · exact (runs_stps (q' := (1, [.ref 0, .int x1, .int x2, .null], [.int x1], w)) 1 rfl).trans <|
    (runs_callS (rv := some (.int r1)) (w' := w1) rfl rfl rfl h1).trans <|
    (runs_if_f (a := 14) (b := 7) (L := [.ref 0, .int x1, .int x2, .null]) (st := []) (w := w1) rfl h2).trans <|
    (runs_stps (q' := (8, [.ref 0, .int x1, .int x2, .null], [.int x2], w1)) 1 rfl).trans <|
    (runs_callS (rv := some (.int r2)) (w' := w2) rfl rfl rfl h3).trans <|
    (runs_if_f (a := 14) (b := 16) (L := [.ref 0, .int x1, .int x2, .null]) (st := []) (w := w2) rfl h4).trans <|
    (runs_stps (q' := (17, [.ref 0, .int x1, .int x2, .null], [.ref 0], w2)) 1 rfl).trans <|
    (runs_getD (pc := 20) (L := [.ref 0, .int x1, .int x2, .null]) (st := []) (w := w2) rfl h5 (by decide)).trans <|
    (runs_stps (q' := (21, [.ref 0, .int x1, .int x2, .null], [.int x1, .ref 27], w2)) 1 rfl).trans <|
    (runs_callV (rv := some (.int r3)) (w' := w3) rfl rfl rfl rfl h6).trans <|
    (runs_stps (q' := (26, [.ref 0, .int x1, .int x2, .int r3], [.int r3], w3)) 2 rfl).trans <|
    (runs_if_t (a := 32) (b := 29) (L := [.ref 0, .int x1, .int x2, .int r3]) (st := []) (w := w3) rfl h7).trans <|
    (runs_stps (q' := (33, [.null, .null, .int x2, .int r3], [.int x2], w3)) 1 rfl).trans <|
    (runs_if_t (a := 36) (b := 43) (L := [.null, .null, .int x2, .int r3]) (st := []) (w := w3) rfl h8).trans <|
    (runs_stps (q' := (37, [.null, .null, .int x2, .int r3], [.int r3], w3)) 1 rfl).trans <|
    (runs_callS (rv := some (.int r4)) (w' := w4) rfl rfl rfl h9).trans <|
    (runs_stps (q' := (44, [.null, .null, .int x2, .int r3], [.int r4], w4)) 1 rfl).trans <|
    runs_ret rfl
theorem p_X8_learn_0FTF_R {ex : Ex} {p : Nat} {x1 : Int32} {x2 : Int32} {r1 : Int32} {w1 : Wd} {r2 : Int32} {w2 : Wd} {r3 : Int32} {w3 : Wd} {w : Wd} (hp : scp p) (h1 : ex 130 [.int x1] w = some (some (.int r1), w1)) (h2 : ¬ r1 = 0) (h3 : ex 131 [.int x2] w1 = some (some (.int r2), w2)) (h4 : ¬ r2 = 0) (h5 : w2.1 0 5 = nI p) (h6 : ex 79 [.ref p, .int x1] w2 = some (some (.int r3), w3)) (h7 : ¬ 0 ≤ r3) : runs (T_X8_learn ex) (0, [.ref 0, .int x1, .int x2, .null], [], w) = some (some (.int (-9)), w3) := by
  rcases hp with rfl | rfl
  · exact (runs_stps (q' := (1, [.ref 0, .int x1, .int x2, .null], [.int x1], w)) 1 rfl).trans <|
    (runs_callS (rv := some (.int r1)) (w' := w1) rfl rfl rfl h1).trans <|
    (runs_if_f (a := 14) (b := 7) (L := [.ref 0, .int x1, .int x2, .null]) (st := []) (w := w1) rfl h2).trans <|
    (runs_stps (q' := (8, [.ref 0, .int x1, .int x2, .null], [.int x2], w1)) 1 rfl).trans <|
    (runs_callS (rv := some (.int r2)) (w' := w2) rfl rfl rfl h3).trans <|
    (runs_if_f (a := 14) (b := 16) (L := [.ref 0, .int x1, .int x2, .null]) (st := []) (w := w2) rfl h4).trans <|
    (runs_stps (q' := (17, [.ref 0, .int x1, .int x2, .null], [.ref 0], w2)) 1 rfl).trans <|
    (runs_getD (pc := 20) (L := [.ref 0, .int x1, .int x2, .null]) (st := []) (w := w2) rfl h5 (by decide)).trans <|
    (runs_stps (q' := (21, [.ref 0, .int x1, .int x2, .null], [.int x1, .ref 20], w2)) 1 rfl).trans <|
    (runs_callV (rv := some (.int r3)) (w' := w3) rfl rfl rfl rfl h6).trans <|
    (runs_stps (q' := (26, [.ref 0, .int x1, .int x2, .int r3], [.int r3], w3)) 2 rfl).trans <|
    (runs_if_f (a := 32) (b := 29) (L := [.ref 0, .int x1, .int x2, .int r3]) (st := []) (w := w3) rfl h7).trans <|
    (runs_stps (q' := (31, [.ref 0, .int x1, .int x2, .int r3], [.int (-9)], w3)) 1 rfl).trans <|
    runs_ret rfl
  · exact (runs_stps (q' := (1, [.ref 0, .int x1, .int x2, .null], [.int x1], w)) 1 rfl).trans <|
    (runs_callS (rv := some (.int r1)) (w' := w1) rfl rfl rfl h1).trans <|
    (runs_if_f (a := 14) (b := 7) (L := [.ref 0, .int x1, .int x2, .null]) (st := []) (w := w1) rfl h2).trans <|
    (runs_stps (q' := (8, [.ref 0, .int x1, .int x2, .null], [.int x2], w1)) 1 rfl).trans <|
    (runs_callS (rv := some (.int r2)) (w' := w2) rfl rfl rfl h3).trans <|
    (runs_if_f (a := 14) (b := 16) (L := [.ref 0, .int x1, .int x2, .null]) (st := []) (w := w2) rfl h4).trans <|
    (runs_stps (q' := (17, [.ref 0, .int x1, .int x2, .null], [.ref 0], w2)) 1 rfl).trans <|
    (runs_getD (pc := 20) (L := [.ref 0, .int x1, .int x2, .null]) (st := []) (w := w2) rfl h5 (by decide)).trans <|
    (runs_stps (q' := (21, [.ref 0, .int x1, .int x2, .null], [.int x1, .ref 27], w2)) 1 rfl).trans <|
    (runs_callV (rv := some (.int r3)) (w' := w3) rfl rfl rfl rfl h6).trans <|
    (runs_stps (q' := (26, [.ref 0, .int x1, .int x2, .int r3], [.int r3], w3)) 2 rfl).trans <|
    (runs_if_f (a := 32) (b := 29) (L := [.ref 0, .int x1, .int x2, .int r3]) (st := []) (w := w3) rfl h7).trans <|
    (runs_stps (q' := (31, [.ref 0, .int x1, .int x2, .int r3], [.int (-9)], w3)) 1 rfl).trans <|
    runs_ret rfl
theorem p_X8_learn_0FF_R {ex : Ex} {p : Nat} {x1 : Int32} {x2 : Int32} {r1 : Int32} {w1 : Wd} {r2 : Int32} {w2 : Wd} {w : Wd} (hp : scp p) (h1 : ex 130 [.int x1] w = some (some (.int r1), w1)) (h2 : ¬ r1 = 0) (h3 : ex 131 [.int x2] w1 = some (some (.int r2), w2)) (h4 : r2 = 0) : runs (T_X8_learn ex) (0, [.ref 0, .int x1, .int x2, .null], [], w) = some (some (.int (-1)), w2) := by
  rcases hp with rfl | rfl
  · exact (runs_stps (q' := (1, [.ref 0, .int x1, .int x2, .null], [.int x1], w)) 1 rfl).trans <|
    (runs_callS (rv := some (.int r1)) (w' := w1) rfl rfl rfl h1).trans <|
    (runs_if_f (a := 14) (b := 7) (L := [.ref 0, .int x1, .int x2, .null]) (st := []) (w := w1) rfl h2).trans <|
    (runs_stps (q' := (8, [.ref 0, .int x1, .int x2, .null], [.int x2], w1)) 1 rfl).trans <|
    (runs_callS (rv := some (.int r2)) (w' := w2) rfl rfl rfl h3).trans <|
    (runs_if_t (a := 14) (b := 16) (L := [.ref 0, .int x1, .int x2, .null]) (st := []) (w := w2) rfl h4).trans <|
    (runs_stps (q' := (15, [.null, .null, .null, .null], [.int (-1)], w2)) 1 rfl).trans <|
    runs_ret rfl
  · exact (runs_stps (q' := (1, [.ref 0, .int x1, .int x2, .null], [.int x1], w)) 1 rfl).trans <|
    (runs_callS (rv := some (.int r1)) (w' := w1) rfl rfl rfl h1).trans <|
    (runs_if_f (a := 14) (b := 7) (L := [.ref 0, .int x1, .int x2, .null]) (st := []) (w := w1) rfl h2).trans <|
    (runs_stps (q' := (8, [.ref 0, .int x1, .int x2, .null], [.int x2], w1)) 1 rfl).trans <|
    (runs_callS (rv := some (.int r2)) (w' := w2) rfl rfl rfl h3).trans <|
    (runs_if_t (a := 14) (b := 16) (L := [.ref 0, .int x1, .int x2, .null]) (st := []) (w := w2) rfl h4).trans <|
    (runs_stps (q' := (15, [.null, .null, .null, .null], [.int (-1)], w2)) 1 rfl).trans <|
    runs_ret rfl
theorem p_X8_saw_0T_R {ex : Ex} {x1 : Int32} {x2 : Int32} {w : Wd} (h1 : x1 < 0) : runs (T_X8_saw ex) (0, [.ref 0, .int x1, .int x2], [], w) = some (some (.int (-1)), w) := 
    (runs_stps (q' := (1, [.ref 0, .int x1, .int x2], [.int x1], w)) 1 rfl).trans <|
    (runs_if_t (a := 16) (b := 4) (L := [.ref 0, .int x1, .int x2]) (st := []) (w := w) rfl h1).trans <|
    (runs_stps (q' := (17, [.null, .null, .null], [.int (-1)], w)) 1 rfl).trans <|
    runs_ret rfl
theorem p_X8_saw_0FT_R {ex : Ex} {x1 : Int32} {x2 : Int32} {w : Wd} (h1 : ¬ x1 < 0) (h2 : 3 < x1) : runs (T_X8_saw ex) (0, [.ref 0, .int x1, .int x2], [], w) = some (some (.int (-1)), w) := 
    (runs_stps (q' := (1, [.ref 0, .int x1, .int x2], [.int x1], w)) 1 rfl).trans <|
    (runs_if_f (a := 16) (b := 4) (L := [.ref 0, .int x1, .int x2]) (st := []) (w := w) rfl h1).trans <|
    (runs_stps (q' := (6, [.ref 0, .int x1, .int x2], [.int 3, .int x1], w)) 2 rfl).trans <|
    (runs_if_t (a := 16) (b := 9) (L := [.ref 0, .int x1, .int x2]) (st := []) (w := w) rfl h2).trans <|
    (runs_stps (q' := (17, [.null, .null, .null], [.int (-1)], w)) 1 rfl).trans <|
    runs_ret rfl
theorem p_X8_saw_0FFTT_R {ex : Ex} {x1 : Int32} {x2 : Int32} {r1 : Int32} {w1 : Wd} {r2 : Int32} {w2 : Wd} {w : Wd} (h1 : ¬ x1 < 0) (h2 : ¬ 3 < x1) (h3 : ex 130 [.int x2] w = some (some (.int r1), w1)) (h4 : ¬ r1 = 0) (h5 : ex 4 [.ref 15, .int x1, .int x2] w1 = some (some (.int r2), w2)) (h6 : r2 = 0) : runs (T_X8_saw ex) (0, [.ref 0, .int x1, .int x2], [], w) = some (some (.int (-3)), w2) := 
    (runs_stps (q' := (1, [.ref 0, .int x1, .int x2], [.int x1], w)) 1 rfl).trans <|
    (runs_if_f (a := 16) (b := 4) (L := [.ref 0, .int x1, .int x2]) (st := []) (w := w) rfl h1).trans <|
    (runs_stps (q' := (6, [.ref 0, .int x1, .int x2], [.int 3, .int x1], w)) 2 rfl).trans <|
    (runs_if_f (a := 16) (b := 9) (L := [.ref 0, .int x1, .int x2]) (st := []) (w := w) rfl h2).trans <|
    (runs_stps (q' := (10, [.ref 0, .int x1, .int x2], [.int x2], w)) 1 rfl).trans <|
    (runs_callS (rv := some (.int r1)) (w' := w1) rfl rfl rfl h3).trans <|
    (runs_if_f (a := 16) (b := 18) (L := [.ref 0, .int x1, .int x2]) (st := []) (w := w1) rfl h4).trans <|
    (runs_stps (q' := (24, [.ref 0, .int x1, .int x2], [.int x2, .int x1, .ref 15], w1)) 4 rfl).trans <|
    (runs_callV (rv := some (.int r2)) (w' := w2) rfl rfl rfl rfl h5).trans <|
    (runs_if_t (a := 40) (b := 30) (L := [.ref 0, .int x1, .int x2]) (st := []) (w := w2) rfl h6).trans <|
    (runs_stps (q' := (42, [.null, .null, .null], [.int (-3)], w2)) 1 rfl).trans <|
    runs_ret rfl
theorem p_X8_saw_0FFTF_R {ex : Ex} {x1 : Int32} {x2 : Int32} {r1 : Int32} {w1 : Wd} {r2 : Int32} {w2 : Wd} {r3 : Int32} {w3 : Wd} {w : Wd} (h1 : ¬ x1 < 0) (h2 : ¬ 3 < x1) (h3 : ex 130 [.int x2] w = some (some (.int r1), w1)) (h4 : ¬ r1 = 0) (h5 : ex 4 [.ref 15, .int x1, .int x2] w1 = some (some (.int r2), w2)) (h6 : ¬ r2 = 0) (h7 : ex 2 [.ref 15] w2 = some (some (.int r3), w3)) : runs (T_X8_saw ex) (0, [.ref 0, .int x1, .int x2], [], w) = some (some (.int r3), w3) := 
    (runs_stps (q' := (1, [.ref 0, .int x1, .int x2], [.int x1], w)) 1 rfl).trans <|
    (runs_if_f (a := 16) (b := 4) (L := [.ref 0, .int x1, .int x2]) (st := []) (w := w) rfl h1).trans <|
    (runs_stps (q' := (6, [.ref 0, .int x1, .int x2], [.int 3, .int x1], w)) 2 rfl).trans <|
    (runs_if_f (a := 16) (b := 9) (L := [.ref 0, .int x1, .int x2]) (st := []) (w := w) rfl h2).trans <|
    (runs_stps (q' := (10, [.ref 0, .int x1, .int x2], [.int x2], w)) 1 rfl).trans <|
    (runs_callS (rv := some (.int r1)) (w' := w1) rfl rfl rfl h3).trans <|
    (runs_if_f (a := 16) (b := 18) (L := [.ref 0, .int x1, .int x2]) (st := []) (w := w1) rfl h4).trans <|
    (runs_stps (q' := (24, [.ref 0, .int x1, .int x2], [.int x2, .int x1, .ref 15], w1)) 4 rfl).trans <|
    (runs_callV (rv := some (.int r2)) (w' := w2) rfl rfl rfl rfl h5).trans <|
    (runs_if_f (a := 40) (b := 30) (L := [.ref 0, .int x1, .int x2]) (st := []) (w := w2) rfl h6).trans <|
    (runs_stps (q' := (34, [.ref 0, .int x1, .int x2], [.ref 15], w2)) 2 rfl).trans <|
    (runs_callV (rv := some (.int r3)) (w' := w3) rfl rfl rfl rfl h7).trans <|
    (runs_stps (q' := (42, [.ref 0, .int x1, .int x2], [.int r3], w3)) 1 rfl).trans <|
    runs_ret rfl
theorem p_X8_saw_0FFF_R {ex : Ex} {x1 : Int32} {x2 : Int32} {r1 : Int32} {w1 : Wd} {w : Wd} (h1 : ¬ x1 < 0) (h2 : ¬ 3 < x1) (h3 : ex 130 [.int x2] w = some (some (.int r1), w1)) (h4 : r1 = 0) : runs (T_X8_saw ex) (0, [.ref 0, .int x1, .int x2], [], w) = some (some (.int (-1)), w1) := 
    (runs_stps (q' := (1, [.ref 0, .int x1, .int x2], [.int x1], w)) 1 rfl).trans <|
    (runs_if_f (a := 16) (b := 4) (L := [.ref 0, .int x1, .int x2]) (st := []) (w := w) rfl h1).trans <|
    (runs_stps (q' := (6, [.ref 0, .int x1, .int x2], [.int 3, .int x1], w)) 2 rfl).trans <|
    (runs_if_f (a := 16) (b := 9) (L := [.ref 0, .int x1, .int x2]) (st := []) (w := w) rfl h2).trans <|
    (runs_stps (q' := (10, [.ref 0, .int x1, .int x2], [.int x2], w)) 1 rfl).trans <|
    (runs_callS (rv := some (.int r1)) (w' := w1) rfl rfl rfl h3).trans <|
    (runs_if_t (a := 16) (b := 18) (L := [.ref 0, .int x1, .int x2]) (st := []) (w := w1) rfl h4).trans <|
    (runs_stps (q' := (17, [.null, .null, .null], [.int (-1)], w1)) 1 rfl).trans <|
    runs_ret rfl
theorem p_X8_forget_0_R {ex : Ex} {r1 : Int32} {w1 : Wd} {w2 : Wd} {w : Wd} (h1 : ex 2 [.ref 15] w = some (some (.int r1), w1)) (h2 : ex 3 [.ref 15] w1 = some (none, w2)) : runs (T_X8_forget ex) (0, [.ref 0, .null], [], w) = some (some (.int r1), w2) := 
    (runs_stps (q' := (4, [.ref 0, .null], [.ref 15], w)) 2 rfl).trans <|
    (runs_callV (rv := some (.int r1)) (w' := w1) rfl rfl rfl rfl h1).trans <|
    (runs_stps (q' := (12, [.ref 0, .int r1], [.ref 15], w1)) 3 rfl).trans <|
    (runs_callV (rv := none) (w' := w2) rfl rfl rfl rfl h2).trans <|
    (runs_stps (q' := (16, [.ref 0, .int r1], [.int r1], w2)) 1 rfl).trans <|
    runs_ret rfl
theorem p_X8_could_0_R {ex : Ex} {p : Nat} {r1 : Int32} {w1 : Wd} {w : Wd} (hp : scp p) (h1 : w.1 0 5 = nI p) (h2 : ex 5 [.ref 15, .ref p] w = some (some (.int r1), w1)) : runs (T_X8_could ex) (0, [.ref 0], [], w) = some (some (.int r1), w1) := by
  rcases hp with rfl | rfl
  · exact (runs_stps (q' := (5, [.ref 0], [.ref 0, .ref 15], w)) 3 rfl).trans <|
    (runs_getD (pc := 8) (L := [.ref 0]) (st := [.ref 15]) (w := w) rfl h1 (by decide)).trans <|
    (runs_callV (rv := some (.int r1)) (w' := w1) rfl rfl rfl rfl h2).trans <|
    runs_ret rfl
  · exact (runs_stps (q' := (5, [.ref 0], [.ref 0, .ref 15], w)) 3 rfl).trans <|
    (runs_getD (pc := 8) (L := [.ref 0]) (st := [.ref 15]) (w := w) rfl h1 (by decide)).trans <|
    (runs_callV (rv := some (.int r1)) (w' := w1) rfl rfl rfl rfl h2).trans <|
    runs_ret rfl
theorem p_X8_under_0T_R {ex : Ex} {p : Nat} {x1 : Int32} {w : Wd} (hp : scp p) (h1 : x1 < 0) : runs (T_X8_under ex) (0, [.ref 0, .int x1], [], w) = some (some (.int (-1)), w) := by
  rcases hp with rfl | rfl
  · exact (runs_stps (q' := (1, [.ref 0, .int x1], [.int x1], w)) 1 rfl).trans <|
    (runs_if_t (a := 9) (b := 4) (L := [.ref 0, .int x1]) (st := []) (w := w) rfl h1).trans <|
    (runs_stps (q' := (10, [.null, .null], [.int (-1)], w)) 1 rfl).trans <|
    runs_ret rfl
  · exact (runs_stps (q' := (1, [.ref 0, .int x1], [.int x1], w)) 1 rfl).trans <|
    (runs_if_t (a := 9) (b := 4) (L := [.ref 0, .int x1]) (st := []) (w := w) rfl h1).trans <|
    (runs_stps (q' := (10, [.null, .null], [.int (-1)], w)) 1 rfl).trans <|
    runs_ret rfl
theorem p_X8_under_0FT_R {ex : Ex} {p : Nat} {x1 : Int32} {r1 : Int32} {w1 : Wd} {w : Wd} (hp : scp p) (h1 : ¬ x1 < 0) (h2 : x1 < 3) (h3 : w.1 0 5 = nI p) (h4 : ex 6 [.ref 15, .ref p, .int x1] w = some (some (.int r1), w1)) : runs (T_X8_under ex) (0, [.ref 0, .int x1], [], w) = some (some (.int r1), w1) := by
  rcases hp with rfl | rfl
  · exact (runs_stps (q' := (1, [.ref 0, .int x1], [.int x1], w)) 1 rfl).trans <|
    (runs_if_f (a := 9) (b := 4) (L := [.ref 0, .int x1]) (st := []) (w := w) rfl h1).trans <|
    (runs_stps (q' := (6, [.ref 0, .int x1], [.int 3, .int x1], w)) 2 rfl).trans <|
    (runs_if_t (a := 11) (b := 9) (L := [.ref 0, .int x1]) (st := []) (w := w) rfl h2).trans <|
    (runs_stps (q' := (16, [.ref 0, .int x1], [.ref 0, .ref 15], w)) 3 rfl).trans <|
    (runs_getD (pc := 19) (L := [.ref 0, .int x1]) (st := [.ref 15]) (w := w) rfl h3 (by decide)).trans <|
    (runs_stps (q' := (20, [.ref 0, .int x1], [.int x1, .ref 20, .ref 15], w)) 1 rfl).trans <|
    (runs_callV (rv := some (.int r1)) (w' := w1) rfl rfl rfl rfl h4).trans <|
    runs_ret rfl
  · exact (runs_stps (q' := (1, [.ref 0, .int x1], [.int x1], w)) 1 rfl).trans <|
    (runs_if_f (a := 9) (b := 4) (L := [.ref 0, .int x1]) (st := []) (w := w) rfl h1).trans <|
    (runs_stps (q' := (6, [.ref 0, .int x1], [.int 3, .int x1], w)) 2 rfl).trans <|
    (runs_if_t (a := 11) (b := 9) (L := [.ref 0, .int x1]) (st := []) (w := w) rfl h2).trans <|
    (runs_stps (q' := (16, [.ref 0, .int x1], [.ref 0, .ref 15], w)) 3 rfl).trans <|
    (runs_getD (pc := 19) (L := [.ref 0, .int x1]) (st := [.ref 15]) (w := w) rfl h3 (by decide)).trans <|
    (runs_stps (q' := (20, [.ref 0, .int x1], [.int x1, .ref 27, .ref 15], w)) 1 rfl).trans <|
    (runs_callV (rv := some (.int r1)) (w' := w1) rfl rfl rfl rfl h4).trans <|
    runs_ret rfl
theorem p_X8_under_0FF_R {ex : Ex} {p : Nat} {x1 : Int32} {w : Wd} (hp : scp p) (h1 : ¬ x1 < 0) (h2 : ¬ x1 < 3) : runs (T_X8_under ex) (0, [.ref 0, .int x1], [], w) = some (some (.int (-1)), w) := by
  rcases hp with rfl | rfl
  · exact (runs_stps (q' := (1, [.ref 0, .int x1], [.int x1], w)) 1 rfl).trans <|
    (runs_if_f (a := 9) (b := 4) (L := [.ref 0, .int x1]) (st := []) (w := w) rfl h1).trans <|
    (runs_stps (q' := (6, [.ref 0, .int x1], [.int 3, .int x1], w)) 2 rfl).trans <|
    (runs_if_f (a := 11) (b := 9) (L := [.ref 0, .int x1]) (st := []) (w := w) rfl h2).trans <|
    (runs_stps (q' := (10, [.null, .null], [.int (-1)], w)) 1 rfl).trans <|
    runs_ret rfl
  · exact (runs_stps (q' := (1, [.ref 0, .int x1], [.int x1], w)) 1 rfl).trans <|
    (runs_if_f (a := 9) (b := 4) (L := [.ref 0, .int x1]) (st := []) (w := w) rfl h1).trans <|
    (runs_stps (q' := (6, [.ref 0, .int x1], [.int 3, .int x1], w)) 2 rfl).trans <|
    (runs_if_f (a := 11) (b := 9) (L := [.ref 0, .int x1]) (st := []) (w := w) rfl h2).trans <|
    (runs_stps (q' := (10, [.null, .null], [.int (-1)], w)) 1 rfl).trans <|
    runs_ret rfl
theorem p_X8_lifted_0_R {ex : Ex} {p : Nat} {r1 : Int32} {w1 : Wd} {w : Wd} (hp : scp p) (h1 : w.1 0 5 = nI p) (h2 : ex 7 [.ref 15, .ref p] w = some (some (.int r1), w1)) : runs (T_X8_lifted ex) (0, [.ref 0], [], w) = some (some (.int r1), w1) := by
  rcases hp with rfl | rfl
  · exact (runs_stps (q' := (5, [.ref 0], [.ref 0, .ref 15], w)) 3 rfl).trans <|
    (runs_getD (pc := 8) (L := [.ref 0]) (st := [.ref 15]) (w := w) rfl h1 (by decide)).trans <|
    (runs_callV (rv := some (.int r1)) (w' := w1) rfl rfl rfl rfl h2).trans <|
    runs_ret rfl
  · exact (runs_stps (q' := (5, [.ref 0], [.ref 0, .ref 15], w)) 3 rfl).trans <|
    (runs_getD (pc := 8) (L := [.ref 0]) (st := [.ref 15]) (w := w) rfl h1 (by decide)).trans <|
    (runs_callV (rv := some (.int r1)) (w' := w1) rfl rfl rfl rfl h2).trans <|
    runs_ret rfl
theorem p_X8_broom_0T_R {ex : Ex} {p : Nat} {x1 : Int32} {x2 : Int32} {x3 : Int32} {x4 : Int32} {x5 : Int32} {x6 : Int32} {r1 : Int32} {w1 : Wd} {w : Wd} (hp : scp p) (h1 : w.1 0 5 = nI p) (h2 : ex 60 [.ref p, .int x1] w = some (some (.int r1), w1)) (h3 : r1 = 0) : runs (T_X8_broom ex) (0, [.ref 0, .int x1, .int x2, .int x3, .int x4, .int x5, .int x6, .null], [], w) = some (some (.int (-1)), w1) := by
  rcases hp with rfl | rfl
  · exact (runs_stps (q' := (1, [.ref 0, .int x1, .int x2, .int x3, .int x4, .int x5, .int x6, .null], [.ref 0], w)) 1 rfl).trans <|
    (runs_getD (pc := 4) (L := [.ref 0, .int x1, .int x2, .int x3, .int x4, .int x5, .int x6, .null]) (st := []) (w := w) rfl h1 (by decide)).trans <|
    (runs_stps (q' := (5, [.ref 0, .int x1, .int x2, .int x3, .int x4, .int x5, .int x6, .null], [.int x1, .ref 20], w)) 1 rfl).trans <|
    (runs_callV (rv := some (.int r1)) (w' := w1) rfl rfl rfl rfl h2).trans <|
    (runs_if_t (a := 38) (b := 11) (L := [.ref 0, .int x1, .int x2, .int x3, .int x4, .int x5, .int x6, .null]) (st := []) (w := w1) rfl h3).trans <|
    (runs_stps (q' := (39, [.null, .null, .null, .null, .null, .null, .null, .null], [.int (-1)], w1)) 1 rfl).trans <|
    runs_ret rfl
  · exact (runs_stps (q' := (1, [.ref 0, .int x1, .int x2, .int x3, .int x4, .int x5, .int x6, .null], [.ref 0], w)) 1 rfl).trans <|
    (runs_getD (pc := 4) (L := [.ref 0, .int x1, .int x2, .int x3, .int x4, .int x5, .int x6, .null]) (st := []) (w := w) rfl h1 (by decide)).trans <|
    (runs_stps (q' := (5, [.ref 0, .int x1, .int x2, .int x3, .int x4, .int x5, .int x6, .null], [.int x1, .ref 27], w)) 1 rfl).trans <|
    (runs_callV (rv := some (.int r1)) (w' := w1) rfl rfl rfl rfl h2).trans <|
    (runs_if_t (a := 38) (b := 11) (L := [.ref 0, .int x1, .int x2, .int x3, .int x4, .int x5, .int x6, .null]) (st := []) (w := w1) rfl h3).trans <|
    (runs_stps (q' := (39, [.null, .null, .null, .null, .null, .null, .null, .null], [.int (-1)], w1)) 1 rfl).trans <|
    runs_ret rfl
theorem p_X8_broom_0FT_R {ex : Ex} {p : Nat} {x1 : Int32} {x2 : Int32} {x3 : Int32} {x4 : Int32} {x5 : Int32} {x6 : Int32} {r1 : Int32} {w1 : Wd} {r2 : Int32} {w2 : Wd} {w : Wd} (hp : scp p) (h1 : w.1 0 5 = nI p) (h2 : ex 60 [.ref p, .int x1] w = some (some (.int r1), w1)) (h3 : ¬ r1 = 0) (h4 : w1.1 0 5 = nI p) (h5 : ex 61 [.ref p, .int x2] w1 = some (some (.int r2), w2)) (h6 : r2 = 0) : runs (T_X8_broom ex) (0, [.ref 0, .int x1, .int x2, .int x3, .int x4, .int x5, .int x6, .null], [], w) = some (some (.int (-1)), w2) := by
  rcases hp with rfl | rfl
  · exact (runs_stps (q' := (1, [.ref 0, .int x1, .int x2, .int x3, .int x4, .int x5, .int x6, .null], [.ref 0], w)) 1 rfl).trans <|
    (runs_getD (pc := 4) (L := [.ref 0, .int x1, .int x2, .int x3, .int x4, .int x5, .int x6, .null]) (st := []) (w := w) rfl h1 (by decide)).trans <|
    (runs_stps (q' := (5, [.ref 0, .int x1, .int x2, .int x3, .int x4, .int x5, .int x6, .null], [.int x1, .ref 20], w)) 1 rfl).trans <|
    (runs_callV (rv := some (.int r1)) (w' := w1) rfl rfl rfl rfl h2).trans <|
    (runs_if_f (a := 38) (b := 11) (L := [.ref 0, .int x1, .int x2, .int x3, .int x4, .int x5, .int x6, .null]) (st := []) (w := w1) rfl h3).trans <|
    (runs_stps (q' := (12, [.ref 0, .int x1, .int x2, .int x3, .int x4, .int x5, .int x6, .null], [.ref 0], w1)) 1 rfl).trans <|
    (runs_getD (pc := 15) (L := [.ref 0, .int x1, .int x2, .int x3, .int x4, .int x5, .int x6, .null]) (st := []) (w := w1) rfl h4 (by decide)).trans <|
    (runs_stps (q' := (16, [.ref 0, .int x1, .int x2, .int x3, .int x4, .int x5, .int x6, .null], [.int x2, .ref 20], w1)) 1 rfl).trans <|
    (runs_callV (rv := some (.int r2)) (w' := w2) rfl rfl rfl rfl h5).trans <|
    (runs_if_t (a := 38) (b := 22) (L := [.ref 0, .int x1, .int x2, .int x3, .int x4, .int x5, .int x6, .null]) (st := []) (w := w2) rfl h6).trans <|
    (runs_stps (q' := (39, [.null, .null, .null, .null, .null, .null, .null, .null], [.int (-1)], w2)) 1 rfl).trans <|
    runs_ret rfl
  · exact (runs_stps (q' := (1, [.ref 0, .int x1, .int x2, .int x3, .int x4, .int x5, .int x6, .null], [.ref 0], w)) 1 rfl).trans <|
    (runs_getD (pc := 4) (L := [.ref 0, .int x1, .int x2, .int x3, .int x4, .int x5, .int x6, .null]) (st := []) (w := w) rfl h1 (by decide)).trans <|
    (runs_stps (q' := (5, [.ref 0, .int x1, .int x2, .int x3, .int x4, .int x5, .int x6, .null], [.int x1, .ref 27], w)) 1 rfl).trans <|
    (runs_callV (rv := some (.int r1)) (w' := w1) rfl rfl rfl rfl h2).trans <|
    (runs_if_f (a := 38) (b := 11) (L := [.ref 0, .int x1, .int x2, .int x3, .int x4, .int x5, .int x6, .null]) (st := []) (w := w1) rfl h3).trans <|
    (runs_stps (q' := (12, [.ref 0, .int x1, .int x2, .int x3, .int x4, .int x5, .int x6, .null], [.ref 0], w1)) 1 rfl).trans <|
    (runs_getD (pc := 15) (L := [.ref 0, .int x1, .int x2, .int x3, .int x4, .int x5, .int x6, .null]) (st := []) (w := w1) rfl h4 (by decide)).trans <|
    (runs_stps (q' := (16, [.ref 0, .int x1, .int x2, .int x3, .int x4, .int x5, .int x6, .null], [.int x2, .ref 27], w1)) 1 rfl).trans <|
    (runs_callV (rv := some (.int r2)) (w' := w2) rfl rfl rfl rfl h5).trans <|
    (runs_if_t (a := 38) (b := 22) (L := [.ref 0, .int x1, .int x2, .int x3, .int x4, .int x5, .int x6, .null]) (st := []) (w := w2) rfl h6).trans <|
    (runs_stps (q' := (39, [.null, .null, .null, .null, .null, .null, .null, .null], [.int (-1)], w2)) 1 rfl).trans <|
    runs_ret rfl
theorem p_X8_broom_0FFT_R {ex : Ex} {p : Nat} {x1 : Int32} {x2 : Int32} {x3 : Int32} {x4 : Int32} {x5 : Int32} {x6 : Int32} {r1 : Int32} {w1 : Wd} {r2 : Int32} {w2 : Wd} {r3 : Int32} {w3 : Wd} {w : Wd} (hp : scp p) (h1 : w.1 0 5 = nI p) (h2 : ex 60 [.ref p, .int x1] w = some (some (.int r1), w1)) (h3 : ¬ r1 = 0) (h4 : w1.1 0 5 = nI p) (h5 : ex 61 [.ref p, .int x2] w1 = some (some (.int r2), w2)) (h6 : ¬ r2 = 0) (h7 : w2.1 0 5 = nI p) (h8 : ex 61 [.ref p, .int x3] w2 = some (some (.int r3), w3)) (h9 : r3 = 0) : runs (T_X8_broom ex) (0, [.ref 0, .int x1, .int x2, .int x3, .int x4, .int x5, .int x6, .null], [], w) = some (some (.int (-1)), w3) := by
  rcases hp with rfl | rfl
  · exact (runs_stps (q' := (1, [.ref 0, .int x1, .int x2, .int x3, .int x4, .int x5, .int x6, .null], [.ref 0], w)) 1 rfl).trans <|
    (runs_getD (pc := 4) (L := [.ref 0, .int x1, .int x2, .int x3, .int x4, .int x5, .int x6, .null]) (st := []) (w := w) rfl h1 (by decide)).trans <|
    (runs_stps (q' := (5, [.ref 0, .int x1, .int x2, .int x3, .int x4, .int x5, .int x6, .null], [.int x1, .ref 20], w)) 1 rfl).trans <|
    (runs_callV (rv := some (.int r1)) (w' := w1) rfl rfl rfl rfl h2).trans <|
    (runs_if_f (a := 38) (b := 11) (L := [.ref 0, .int x1, .int x2, .int x3, .int x4, .int x5, .int x6, .null]) (st := []) (w := w1) rfl h3).trans <|
    (runs_stps (q' := (12, [.ref 0, .int x1, .int x2, .int x3, .int x4, .int x5, .int x6, .null], [.ref 0], w1)) 1 rfl).trans <|
    (runs_getD (pc := 15) (L := [.ref 0, .int x1, .int x2, .int x3, .int x4, .int x5, .int x6, .null]) (st := []) (w := w1) rfl h4 (by decide)).trans <|
    (runs_stps (q' := (16, [.ref 0, .int x1, .int x2, .int x3, .int x4, .int x5, .int x6, .null], [.int x2, .ref 20], w1)) 1 rfl).trans <|
    (runs_callV (rv := some (.int r2)) (w' := w2) rfl rfl rfl rfl h5).trans <|
    (runs_if_f (a := 38) (b := 22) (L := [.ref 0, .int x1, .int x2, .int x3, .int x4, .int x5, .int x6, .null]) (st := []) (w := w2) rfl h6).trans <|
    (runs_stps (q' := (23, [.ref 0, .int x1, .int x2, .int x3, .int x4, .int x5, .int x6, .null], [.ref 0], w2)) 1 rfl).trans <|
    (runs_getD (pc := 26) (L := [.ref 0, .int x1, .int x2, .int x3, .int x4, .int x5, .int x6, .null]) (st := []) (w := w2) rfl h7 (by decide)).trans <|
    (runs_stps (q' := (27, [.ref 0, .int x1, .int x2, .int x3, .int x4, .int x5, .int x6, .null], [.int x3, .ref 20], w2)) 1 rfl).trans <|
    (runs_callV (rv := some (.int r3)) (w' := w3) rfl rfl rfl rfl h8).trans <|
    (runs_if_t (a := 38) (b := 33) (L := [.ref 0, .int x1, .int x2, .int x3, .int x4, .int x5, .int x6, .null]) (st := []) (w := w3) rfl h9).trans <|
    (runs_stps (q' := (39, [.null, .null, .null, .null, .null, .null, .null, .null], [.int (-1)], w3)) 1 rfl).trans <|
    runs_ret rfl
  · exact (runs_stps (q' := (1, [.ref 0, .int x1, .int x2, .int x3, .int x4, .int x5, .int x6, .null], [.ref 0], w)) 1 rfl).trans <|
    (runs_getD (pc := 4) (L := [.ref 0, .int x1, .int x2, .int x3, .int x4, .int x5, .int x6, .null]) (st := []) (w := w) rfl h1 (by decide)).trans <|
    (runs_stps (q' := (5, [.ref 0, .int x1, .int x2, .int x3, .int x4, .int x5, .int x6, .null], [.int x1, .ref 27], w)) 1 rfl).trans <|
    (runs_callV (rv := some (.int r1)) (w' := w1) rfl rfl rfl rfl h2).trans <|
    (runs_if_f (a := 38) (b := 11) (L := [.ref 0, .int x1, .int x2, .int x3, .int x4, .int x5, .int x6, .null]) (st := []) (w := w1) rfl h3).trans <|
    (runs_stps (q' := (12, [.ref 0, .int x1, .int x2, .int x3, .int x4, .int x5, .int x6, .null], [.ref 0], w1)) 1 rfl).trans <|
    (runs_getD (pc := 15) (L := [.ref 0, .int x1, .int x2, .int x3, .int x4, .int x5, .int x6, .null]) (st := []) (w := w1) rfl h4 (by decide)).trans <|
    (runs_stps (q' := (16, [.ref 0, .int x1, .int x2, .int x3, .int x4, .int x5, .int x6, .null], [.int x2, .ref 27], w1)) 1 rfl).trans <|
    (runs_callV (rv := some (.int r2)) (w' := w2) rfl rfl rfl rfl h5).trans <|
    (runs_if_f (a := 38) (b := 22) (L := [.ref 0, .int x1, .int x2, .int x3, .int x4, .int x5, .int x6, .null]) (st := []) (w := w2) rfl h6).trans <|
    (runs_stps (q' := (23, [.ref 0, .int x1, .int x2, .int x3, .int x4, .int x5, .int x6, .null], [.ref 0], w2)) 1 rfl).trans <|
    (runs_getD (pc := 26) (L := [.ref 0, .int x1, .int x2, .int x3, .int x4, .int x5, .int x6, .null]) (st := []) (w := w2) rfl h7 (by decide)).trans <|
    (runs_stps (q' := (27, [.ref 0, .int x1, .int x2, .int x3, .int x4, .int x5, .int x6, .null], [.int x3, .ref 27], w2)) 1 rfl).trans <|
    (runs_callV (rv := some (.int r3)) (w' := w3) rfl rfl rfl rfl h8).trans <|
    (runs_if_t (a := 38) (b := 33) (L := [.ref 0, .int x1, .int x2, .int x3, .int x4, .int x5, .int x6, .null]) (st := []) (w := w3) rfl h9).trans <|
    (runs_stps (q' := (39, [.null, .null, .null, .null, .null, .null, .null, .null], [.int (-1)], w3)) 1 rfl).trans <|
    runs_ret rfl
theorem p_X8_broom_0FFFTT_R {ex : Ex} {p : Nat} {x1 : Int32} {x2 : Int32} {x3 : Int32} {x4 : Int32} {x5 : Int32} {x6 : Int32} {r1 : Int32} {w1 : Wd} {r2 : Int32} {w2 : Wd} {r3 : Int32} {w3 : Wd} {w : Wd} (hp : scp p) (h1 : w.1 0 5 = nI p) (h2 : ex 60 [.ref p, .int x1] w = some (some (.int r1), w1)) (h3 : ¬ r1 = 0) (h4 : w1.1 0 5 = nI p) (h5 : ex 61 [.ref p, .int x2] w1 = some (some (.int r2), w2)) (h6 : ¬ r2 = 0) (h7 : w2.1 0 5 = nI p) (h8 : ex 61 [.ref p, .int x3] w2 = some (some (.int r3), w3)) (h9 : ¬ r3 = 0) (h10 : ¬ x2 = x3) (h11 : x4 < 0) : runs (T_X8_broom ex) (0, [.ref 0, .int x1, .int x2, .int x3, .int x4, .int x5, .int x6, .null], [], w) = some (some (.int (-1)), w3) := by
  rcases hp with rfl | rfl
  · exact (runs_stps (q' := (1, [.ref 0, .int x1, .int x2, .int x3, .int x4, .int x5, .int x6, .null], [.ref 0], w)) 1 rfl).trans <|
    (runs_getD (pc := 4) (L := [.ref 0, .int x1, .int x2, .int x3, .int x4, .int x5, .int x6, .null]) (st := []) (w := w) rfl h1 (by decide)).trans <|
    (runs_stps (q' := (5, [.ref 0, .int x1, .int x2, .int x3, .int x4, .int x5, .int x6, .null], [.int x1, .ref 20], w)) 1 rfl).trans <|
    (runs_callV (rv := some (.int r1)) (w' := w1) rfl rfl rfl rfl h2).trans <|
    (runs_if_f (a := 38) (b := 11) (L := [.ref 0, .int x1, .int x2, .int x3, .int x4, .int x5, .int x6, .null]) (st := []) (w := w1) rfl h3).trans <|
    (runs_stps (q' := (12, [.ref 0, .int x1, .int x2, .int x3, .int x4, .int x5, .int x6, .null], [.ref 0], w1)) 1 rfl).trans <|
    (runs_getD (pc := 15) (L := [.ref 0, .int x1, .int x2, .int x3, .int x4, .int x5, .int x6, .null]) (st := []) (w := w1) rfl h4 (by decide)).trans <|
    (runs_stps (q' := (16, [.ref 0, .int x1, .int x2, .int x3, .int x4, .int x5, .int x6, .null], [.int x2, .ref 20], w1)) 1 rfl).trans <|
    (runs_callV (rv := some (.int r2)) (w' := w2) rfl rfl rfl rfl h5).trans <|
    (runs_if_f (a := 38) (b := 22) (L := [.ref 0, .int x1, .int x2, .int x3, .int x4, .int x5, .int x6, .null]) (st := []) (w := w2) rfl h6).trans <|
    (runs_stps (q' := (23, [.ref 0, .int x1, .int x2, .int x3, .int x4, .int x5, .int x6, .null], [.ref 0], w2)) 1 rfl).trans <|
    (runs_getD (pc := 26) (L := [.ref 0, .int x1, .int x2, .int x3, .int x4, .int x5, .int x6, .null]) (st := []) (w := w2) rfl h7 (by decide)).trans <|
    (runs_stps (q' := (27, [.ref 0, .int x1, .int x2, .int x3, .int x4, .int x5, .int x6, .null], [.int x3, .ref 20], w2)) 1 rfl).trans <|
    (runs_callV (rv := some (.int r3)) (w' := w3) rfl rfl rfl rfl h8).trans <|
    (runs_if_f (a := 38) (b := 33) (L := [.ref 0, .int x1, .int x2, .int x3, .int x4, .int x5, .int x6, .null]) (st := []) (w := w3) rfl h9).trans <|
    (runs_stps (q' := (35, [.ref 0, .int x1, .int x2, .int x3, .int x4, .int x5, .int x6, .null], [.int x3, .int x2], w3)) 2 rfl).trans <|
    (runs_if_f (a := 38) (b := 40) (L := [.ref 0, .int x1, .int x2, .int x3, .int x4, .int x5, .int x6, .null]) (st := []) (w := w3) rfl h10).trans <|
    (runs_stps (q' := (42, [.ref 0, .int x1, .int x2, .int x3, .int x4, .int x5, .int x6, .null], [.int x4], w3)) 1 rfl).trans <|
    (runs_if_t (a := 71) (b := 45) (L := [.ref 0, .int x1, .int x2, .int x3, .int x4, .int x5, .int x6, .null]) (st := []) (w := w3) rfl h11).trans <|
    (runs_stps (q' := (72, [.null, .null, .null, .null, .null, .null, .null, .null], [.int (-1)], w3)) 1 rfl).trans <|
    runs_ret rfl
  · exact (runs_stps (q' := (1, [.ref 0, .int x1, .int x2, .int x3, .int x4, .int x5, .int x6, .null], [.ref 0], w)) 1 rfl).trans <|
    (runs_getD (pc := 4) (L := [.ref 0, .int x1, .int x2, .int x3, .int x4, .int x5, .int x6, .null]) (st := []) (w := w) rfl h1 (by decide)).trans <|
    (runs_stps (q' := (5, [.ref 0, .int x1, .int x2, .int x3, .int x4, .int x5, .int x6, .null], [.int x1, .ref 27], w)) 1 rfl).trans <|
    (runs_callV (rv := some (.int r1)) (w' := w1) rfl rfl rfl rfl h2).trans <|
    (runs_if_f (a := 38) (b := 11) (L := [.ref 0, .int x1, .int x2, .int x3, .int x4, .int x5, .int x6, .null]) (st := []) (w := w1) rfl h3).trans <|
    (runs_stps (q' := (12, [.ref 0, .int x1, .int x2, .int x3, .int x4, .int x5, .int x6, .null], [.ref 0], w1)) 1 rfl).trans <|
    (runs_getD (pc := 15) (L := [.ref 0, .int x1, .int x2, .int x3, .int x4, .int x5, .int x6, .null]) (st := []) (w := w1) rfl h4 (by decide)).trans <|
    (runs_stps (q' := (16, [.ref 0, .int x1, .int x2, .int x3, .int x4, .int x5, .int x6, .null], [.int x2, .ref 27], w1)) 1 rfl).trans <|
    (runs_callV (rv := some (.int r2)) (w' := w2) rfl rfl rfl rfl h5).trans <|
    (runs_if_f (a := 38) (b := 22) (L := [.ref 0, .int x1, .int x2, .int x3, .int x4, .int x5, .int x6, .null]) (st := []) (w := w2) rfl h6).trans <|
    (runs_stps (q' := (23, [.ref 0, .int x1, .int x2, .int x3, .int x4, .int x5, .int x6, .null], [.ref 0], w2)) 1 rfl).trans <|
    (runs_getD (pc := 26) (L := [.ref 0, .int x1, .int x2, .int x3, .int x4, .int x5, .int x6, .null]) (st := []) (w := w2) rfl h7 (by decide)).trans <|
    (runs_stps (q' := (27, [.ref 0, .int x1, .int x2, .int x3, .int x4, .int x5, .int x6, .null], [.int x3, .ref 27], w2)) 1 rfl).trans <|
    (runs_callV (rv := some (.int r3)) (w' := w3) rfl rfl rfl rfl h8).trans <|
    (runs_if_f (a := 38) (b := 33) (L := [.ref 0, .int x1, .int x2, .int x3, .int x4, .int x5, .int x6, .null]) (st := []) (w := w3) rfl h9).trans <|
    (runs_stps (q' := (35, [.ref 0, .int x1, .int x2, .int x3, .int x4, .int x5, .int x6, .null], [.int x3, .int x2], w3)) 2 rfl).trans <|
    (runs_if_f (a := 38) (b := 40) (L := [.ref 0, .int x1, .int x2, .int x3, .int x4, .int x5, .int x6, .null]) (st := []) (w := w3) rfl h10).trans <|
    (runs_stps (q' := (42, [.ref 0, .int x1, .int x2, .int x3, .int x4, .int x5, .int x6, .null], [.int x4], w3)) 1 rfl).trans <|
    (runs_if_t (a := 71) (b := 45) (L := [.ref 0, .int x1, .int x2, .int x3, .int x4, .int x5, .int x6, .null]) (st := []) (w := w3) rfl h11).trans <|
    (runs_stps (q' := (72, [.null, .null, .null, .null, .null, .null, .null, .null], [.int (-1)], w3)) 1 rfl).trans <|
    runs_ret rfl
theorem p_X8_broom_0FFFTFT_R {ex : Ex} {p : Nat} {x1 : Int32} {x2 : Int32} {x3 : Int32} {x4 : Int32} {x5 : Int32} {x6 : Int32} {r1 : Int32} {w1 : Wd} {r2 : Int32} {w2 : Wd} {r3 : Int32} {w3 : Wd} {w : Wd} (hp : scp p) (h1 : w.1 0 5 = nI p) (h2 : ex 60 [.ref p, .int x1] w = some (some (.int r1), w1)) (h3 : ¬ r1 = 0) (h4 : w1.1 0 5 = nI p) (h5 : ex 61 [.ref p, .int x2] w1 = some (some (.int r2), w2)) (h6 : ¬ r2 = 0) (h7 : w2.1 0 5 = nI p) (h8 : ex 61 [.ref p, .int x3] w2 = some (some (.int r3), w3)) (h9 : ¬ r3 = 0) (h10 : ¬ x2 = x3) (h11 : ¬ x4 < 0) (h12 : 4 < x4) : runs (T_X8_broom ex) (0, [.ref 0, .int x1, .int x2, .int x3, .int x4, .int x5, .int x6, .null], [], w) = some (some (.int (-1)), w3) := by
  rcases hp with rfl | rfl
  · exact (runs_stps (q' := (1, [.ref 0, .int x1, .int x2, .int x3, .int x4, .int x5, .int x6, .null], [.ref 0], w)) 1 rfl).trans <|
    (runs_getD (pc := 4) (L := [.ref 0, .int x1, .int x2, .int x3, .int x4, .int x5, .int x6, .null]) (st := []) (w := w) rfl h1 (by decide)).trans <|
    (runs_stps (q' := (5, [.ref 0, .int x1, .int x2, .int x3, .int x4, .int x5, .int x6, .null], [.int x1, .ref 20], w)) 1 rfl).trans <|
    (runs_callV (rv := some (.int r1)) (w' := w1) rfl rfl rfl rfl h2).trans <|
    (runs_if_f (a := 38) (b := 11) (L := [.ref 0, .int x1, .int x2, .int x3, .int x4, .int x5, .int x6, .null]) (st := []) (w := w1) rfl h3).trans <|
    (runs_stps (q' := (12, [.ref 0, .int x1, .int x2, .int x3, .int x4, .int x5, .int x6, .null], [.ref 0], w1)) 1 rfl).trans <|
    (runs_getD (pc := 15) (L := [.ref 0, .int x1, .int x2, .int x3, .int x4, .int x5, .int x6, .null]) (st := []) (w := w1) rfl h4 (by decide)).trans <|
    (runs_stps (q' := (16, [.ref 0, .int x1, .int x2, .int x3, .int x4, .int x5, .int x6, .null], [.int x2, .ref 20], w1)) 1 rfl).trans <|
    (runs_callV (rv := some (.int r2)) (w' := w2) rfl rfl rfl rfl h5).trans <|
    (runs_if_f (a := 38) (b := 22) (L := [.ref 0, .int x1, .int x2, .int x3, .int x4, .int x5, .int x6, .null]) (st := []) (w := w2) rfl h6).trans <|
    (runs_stps (q' := (23, [.ref 0, .int x1, .int x2, .int x3, .int x4, .int x5, .int x6, .null], [.ref 0], w2)) 1 rfl).trans <|
    (runs_getD (pc := 26) (L := [.ref 0, .int x1, .int x2, .int x3, .int x4, .int x5, .int x6, .null]) (st := []) (w := w2) rfl h7 (by decide)).trans <|
    (runs_stps (q' := (27, [.ref 0, .int x1, .int x2, .int x3, .int x4, .int x5, .int x6, .null], [.int x3, .ref 20], w2)) 1 rfl).trans <|
    (runs_callV (rv := some (.int r3)) (w' := w3) rfl rfl rfl rfl h8).trans <|
    (runs_if_f (a := 38) (b := 33) (L := [.ref 0, .int x1, .int x2, .int x3, .int x4, .int x5, .int x6, .null]) (st := []) (w := w3) rfl h9).trans <|
    (runs_stps (q' := (35, [.ref 0, .int x1, .int x2, .int x3, .int x4, .int x5, .int x6, .null], [.int x3, .int x2], w3)) 2 rfl).trans <|
    (runs_if_f (a := 38) (b := 40) (L := [.ref 0, .int x1, .int x2, .int x3, .int x4, .int x5, .int x6, .null]) (st := []) (w := w3) rfl h10).trans <|
    (runs_stps (q' := (42, [.ref 0, .int x1, .int x2, .int x3, .int x4, .int x5, .int x6, .null], [.int x4], w3)) 1 rfl).trans <|
    (runs_if_f (a := 71) (b := 45) (L := [.ref 0, .int x1, .int x2, .int x3, .int x4, .int x5, .int x6, .null]) (st := []) (w := w3) rfl h11).trans <|
    (runs_stps (q' := (48, [.ref 0, .int x1, .int x2, .int x3, .int x4, .int x5, .int x6, .null], [.int 4, .int x4], w3)) 2 rfl).trans <|
    (runs_if_t (a := 71) (b := 51) (L := [.ref 0, .int x1, .int x2, .int x3, .int x4, .int x5, .int x6, .null]) (st := []) (w := w3) rfl h12).trans <|
    (runs_stps (q' := (72, [.null, .null, .null, .null, .null, .null, .null, .null], [.int (-1)], w3)) 1 rfl).trans <|
    runs_ret rfl
  · exact (runs_stps (q' := (1, [.ref 0, .int x1, .int x2, .int x3, .int x4, .int x5, .int x6, .null], [.ref 0], w)) 1 rfl).trans <|
    (runs_getD (pc := 4) (L := [.ref 0, .int x1, .int x2, .int x3, .int x4, .int x5, .int x6, .null]) (st := []) (w := w) rfl h1 (by decide)).trans <|
    (runs_stps (q' := (5, [.ref 0, .int x1, .int x2, .int x3, .int x4, .int x5, .int x6, .null], [.int x1, .ref 27], w)) 1 rfl).trans <|
    (runs_callV (rv := some (.int r1)) (w' := w1) rfl rfl rfl rfl h2).trans <|
    (runs_if_f (a := 38) (b := 11) (L := [.ref 0, .int x1, .int x2, .int x3, .int x4, .int x5, .int x6, .null]) (st := []) (w := w1) rfl h3).trans <|
    (runs_stps (q' := (12, [.ref 0, .int x1, .int x2, .int x3, .int x4, .int x5, .int x6, .null], [.ref 0], w1)) 1 rfl).trans <|
    (runs_getD (pc := 15) (L := [.ref 0, .int x1, .int x2, .int x3, .int x4, .int x5, .int x6, .null]) (st := []) (w := w1) rfl h4 (by decide)).trans <|
    (runs_stps (q' := (16, [.ref 0, .int x1, .int x2, .int x3, .int x4, .int x5, .int x6, .null], [.int x2, .ref 27], w1)) 1 rfl).trans <|
    (runs_callV (rv := some (.int r2)) (w' := w2) rfl rfl rfl rfl h5).trans <|
    (runs_if_f (a := 38) (b := 22) (L := [.ref 0, .int x1, .int x2, .int x3, .int x4, .int x5, .int x6, .null]) (st := []) (w := w2) rfl h6).trans <|
    (runs_stps (q' := (23, [.ref 0, .int x1, .int x2, .int x3, .int x4, .int x5, .int x6, .null], [.ref 0], w2)) 1 rfl).trans <|
    (runs_getD (pc := 26) (L := [.ref 0, .int x1, .int x2, .int x3, .int x4, .int x5, .int x6, .null]) (st := []) (w := w2) rfl h7 (by decide)).trans <|
    (runs_stps (q' := (27, [.ref 0, .int x1, .int x2, .int x3, .int x4, .int x5, .int x6, .null], [.int x3, .ref 27], w2)) 1 rfl).trans <|
    (runs_callV (rv := some (.int r3)) (w' := w3) rfl rfl rfl rfl h8).trans <|
    (runs_if_f (a := 38) (b := 33) (L := [.ref 0, .int x1, .int x2, .int x3, .int x4, .int x5, .int x6, .null]) (st := []) (w := w3) rfl h9).trans <|
    (runs_stps (q' := (35, [.ref 0, .int x1, .int x2, .int x3, .int x4, .int x5, .int x6, .null], [.int x3, .int x2], w3)) 2 rfl).trans <|
    (runs_if_f (a := 38) (b := 40) (L := [.ref 0, .int x1, .int x2, .int x3, .int x4, .int x5, .int x6, .null]) (st := []) (w := w3) rfl h10).trans <|
    (runs_stps (q' := (42, [.ref 0, .int x1, .int x2, .int x3, .int x4, .int x5, .int x6, .null], [.int x4], w3)) 1 rfl).trans <|
    (runs_if_f (a := 71) (b := 45) (L := [.ref 0, .int x1, .int x2, .int x3, .int x4, .int x5, .int x6, .null]) (st := []) (w := w3) rfl h11).trans <|
    (runs_stps (q' := (48, [.ref 0, .int x1, .int x2, .int x3, .int x4, .int x5, .int x6, .null], [.int 4, .int x4], w3)) 2 rfl).trans <|
    (runs_if_t (a := 71) (b := 51) (L := [.ref 0, .int x1, .int x2, .int x3, .int x4, .int x5, .int x6, .null]) (st := []) (w := w3) rfl h12).trans <|
    (runs_stps (q' := (72, [.null, .null, .null, .null, .null, .null, .null, .null], [.int (-1)], w3)) 1 rfl).trans <|
    runs_ret rfl
theorem p_X8_broom_0FFFTFFT_R {ex : Ex} {p : Nat} {x1 : Int32} {x2 : Int32} {x3 : Int32} {x4 : Int32} {x5 : Int32} {x6 : Int32} {r1 : Int32} {w1 : Wd} {r2 : Int32} {w2 : Wd} {r3 : Int32} {w3 : Wd} {w : Wd} (hp : scp p) (h1 : w.1 0 5 = nI p) (h2 : ex 60 [.ref p, .int x1] w = some (some (.int r1), w1)) (h3 : ¬ r1 = 0) (h4 : w1.1 0 5 = nI p) (h5 : ex 61 [.ref p, .int x2] w1 = some (some (.int r2), w2)) (h6 : ¬ r2 = 0) (h7 : w2.1 0 5 = nI p) (h8 : ex 61 [.ref p, .int x3] w2 = some (some (.int r3), w3)) (h9 : ¬ r3 = 0) (h10 : ¬ x2 = x3) (h11 : ¬ x4 < 0) (h12 : ¬ 4 < x4) (h13 : x5 < 0) : runs (T_X8_broom ex) (0, [.ref 0, .int x1, .int x2, .int x3, .int x4, .int x5, .int x6, .null], [], w) = some (some (.int (-1)), w3) := by
  rcases hp with rfl | rfl
  · exact (runs_stps (q' := (1, [.ref 0, .int x1, .int x2, .int x3, .int x4, .int x5, .int x6, .null], [.ref 0], w)) 1 rfl).trans <|
    (runs_getD (pc := 4) (L := [.ref 0, .int x1, .int x2, .int x3, .int x4, .int x5, .int x6, .null]) (st := []) (w := w) rfl h1 (by decide)).trans <|
    (runs_stps (q' := (5, [.ref 0, .int x1, .int x2, .int x3, .int x4, .int x5, .int x6, .null], [.int x1, .ref 20], w)) 1 rfl).trans <|
    (runs_callV (rv := some (.int r1)) (w' := w1) rfl rfl rfl rfl h2).trans <|
    (runs_if_f (a := 38) (b := 11) (L := [.ref 0, .int x1, .int x2, .int x3, .int x4, .int x5, .int x6, .null]) (st := []) (w := w1) rfl h3).trans <|
    (runs_stps (q' := (12, [.ref 0, .int x1, .int x2, .int x3, .int x4, .int x5, .int x6, .null], [.ref 0], w1)) 1 rfl).trans <|
    (runs_getD (pc := 15) (L := [.ref 0, .int x1, .int x2, .int x3, .int x4, .int x5, .int x6, .null]) (st := []) (w := w1) rfl h4 (by decide)).trans <|
    (runs_stps (q' := (16, [.ref 0, .int x1, .int x2, .int x3, .int x4, .int x5, .int x6, .null], [.int x2, .ref 20], w1)) 1 rfl).trans <|
    (runs_callV (rv := some (.int r2)) (w' := w2) rfl rfl rfl rfl h5).trans <|
    (runs_if_f (a := 38) (b := 22) (L := [.ref 0, .int x1, .int x2, .int x3, .int x4, .int x5, .int x6, .null]) (st := []) (w := w2) rfl h6).trans <|
    (runs_stps (q' := (23, [.ref 0, .int x1, .int x2, .int x3, .int x4, .int x5, .int x6, .null], [.ref 0], w2)) 1 rfl).trans <|
    (runs_getD (pc := 26) (L := [.ref 0, .int x1, .int x2, .int x3, .int x4, .int x5, .int x6, .null]) (st := []) (w := w2) rfl h7 (by decide)).trans <|
    (runs_stps (q' := (27, [.ref 0, .int x1, .int x2, .int x3, .int x4, .int x5, .int x6, .null], [.int x3, .ref 20], w2)) 1 rfl).trans <|
    (runs_callV (rv := some (.int r3)) (w' := w3) rfl rfl rfl rfl h8).trans <|
    (runs_if_f (a := 38) (b := 33) (L := [.ref 0, .int x1, .int x2, .int x3, .int x4, .int x5, .int x6, .null]) (st := []) (w := w3) rfl h9).trans <|
    (runs_stps (q' := (35, [.ref 0, .int x1, .int x2, .int x3, .int x4, .int x5, .int x6, .null], [.int x3, .int x2], w3)) 2 rfl).trans <|
    (runs_if_f (a := 38) (b := 40) (L := [.ref 0, .int x1, .int x2, .int x3, .int x4, .int x5, .int x6, .null]) (st := []) (w := w3) rfl h10).trans <|
    (runs_stps (q' := (42, [.ref 0, .int x1, .int x2, .int x3, .int x4, .int x5, .int x6, .null], [.int x4], w3)) 1 rfl).trans <|
    (runs_if_f (a := 71) (b := 45) (L := [.ref 0, .int x1, .int x2, .int x3, .int x4, .int x5, .int x6, .null]) (st := []) (w := w3) rfl h11).trans <|
    (runs_stps (q' := (48, [.ref 0, .int x1, .int x2, .int x3, .int x4, .int x5, .int x6, .null], [.int 4, .int x4], w3)) 2 rfl).trans <|
    (runs_if_f (a := 71) (b := 51) (L := [.ref 0, .int x1, .int x2, .int x3, .int x4, .int x5, .int x6, .null]) (st := []) (w := w3) rfl h12).trans <|
    (runs_stps (q' := (53, [.ref 0, .int x1, .int x2, .int x3, .int x4, .int x5, .int x6, .null], [.int x5], w3)) 1 rfl).trans <|
    (runs_if_t (a := 71) (b := 56) (L := [.ref 0, .int x1, .int x2, .int x3, .int x4, .int x5, .int x6, .null]) (st := []) (w := w3) rfl h13).trans <|
    (runs_stps (q' := (72, [.null, .null, .null, .null, .null, .null, .null, .null], [.int (-1)], w3)) 1 rfl).trans <|
    runs_ret rfl
  · exact (runs_stps (q' := (1, [.ref 0, .int x1, .int x2, .int x3, .int x4, .int x5, .int x6, .null], [.ref 0], w)) 1 rfl).trans <|
    (runs_getD (pc := 4) (L := [.ref 0, .int x1, .int x2, .int x3, .int x4, .int x5, .int x6, .null]) (st := []) (w := w) rfl h1 (by decide)).trans <|
    (runs_stps (q' := (5, [.ref 0, .int x1, .int x2, .int x3, .int x4, .int x5, .int x6, .null], [.int x1, .ref 27], w)) 1 rfl).trans <|
    (runs_callV (rv := some (.int r1)) (w' := w1) rfl rfl rfl rfl h2).trans <|
    (runs_if_f (a := 38) (b := 11) (L := [.ref 0, .int x1, .int x2, .int x3, .int x4, .int x5, .int x6, .null]) (st := []) (w := w1) rfl h3).trans <|
    (runs_stps (q' := (12, [.ref 0, .int x1, .int x2, .int x3, .int x4, .int x5, .int x6, .null], [.ref 0], w1)) 1 rfl).trans <|
    (runs_getD (pc := 15) (L := [.ref 0, .int x1, .int x2, .int x3, .int x4, .int x5, .int x6, .null]) (st := []) (w := w1) rfl h4 (by decide)).trans <|
    (runs_stps (q' := (16, [.ref 0, .int x1, .int x2, .int x3, .int x4, .int x5, .int x6, .null], [.int x2, .ref 27], w1)) 1 rfl).trans <|
    (runs_callV (rv := some (.int r2)) (w' := w2) rfl rfl rfl rfl h5).trans <|
    (runs_if_f (a := 38) (b := 22) (L := [.ref 0, .int x1, .int x2, .int x3, .int x4, .int x5, .int x6, .null]) (st := []) (w := w2) rfl h6).trans <|
    (runs_stps (q' := (23, [.ref 0, .int x1, .int x2, .int x3, .int x4, .int x5, .int x6, .null], [.ref 0], w2)) 1 rfl).trans <|
    (runs_getD (pc := 26) (L := [.ref 0, .int x1, .int x2, .int x3, .int x4, .int x5, .int x6, .null]) (st := []) (w := w2) rfl h7 (by decide)).trans <|
    (runs_stps (q' := (27, [.ref 0, .int x1, .int x2, .int x3, .int x4, .int x5, .int x6, .null], [.int x3, .ref 27], w2)) 1 rfl).trans <|
    (runs_callV (rv := some (.int r3)) (w' := w3) rfl rfl rfl rfl h8).trans <|
    (runs_if_f (a := 38) (b := 33) (L := [.ref 0, .int x1, .int x2, .int x3, .int x4, .int x5, .int x6, .null]) (st := []) (w := w3) rfl h9).trans <|
    (runs_stps (q' := (35, [.ref 0, .int x1, .int x2, .int x3, .int x4, .int x5, .int x6, .null], [.int x3, .int x2], w3)) 2 rfl).trans <|
    (runs_if_f (a := 38) (b := 40) (L := [.ref 0, .int x1, .int x2, .int x3, .int x4, .int x5, .int x6, .null]) (st := []) (w := w3) rfl h10).trans <|
    (runs_stps (q' := (42, [.ref 0, .int x1, .int x2, .int x3, .int x4, .int x5, .int x6, .null], [.int x4], w3)) 1 rfl).trans <|
    (runs_if_f (a := 71) (b := 45) (L := [.ref 0, .int x1, .int x2, .int x3, .int x4, .int x5, .int x6, .null]) (st := []) (w := w3) rfl h11).trans <|
    (runs_stps (q' := (48, [.ref 0, .int x1, .int x2, .int x3, .int x4, .int x5, .int x6, .null], [.int 4, .int x4], w3)) 2 rfl).trans <|
    (runs_if_f (a := 71) (b := 51) (L := [.ref 0, .int x1, .int x2, .int x3, .int x4, .int x5, .int x6, .null]) (st := []) (w := w3) rfl h12).trans <|
    (runs_stps (q' := (53, [.ref 0, .int x1, .int x2, .int x3, .int x4, .int x5, .int x6, .null], [.int x5], w3)) 1 rfl).trans <|
    (runs_if_t (a := 71) (b := 56) (L := [.ref 0, .int x1, .int x2, .int x3, .int x4, .int x5, .int x6, .null]) (st := []) (w := w3) rfl h13).trans <|
    (runs_stps (q' := (72, [.null, .null, .null, .null, .null, .null, .null, .null], [.int (-1)], w3)) 1 rfl).trans <|
    runs_ret rfl
theorem p_X8_broom_0FFFTFFFT_R {ex : Ex} {p : Nat} {x1 : Int32} {x2 : Int32} {x3 : Int32} {x4 : Int32} {x5 : Int32} {x6 : Int32} {r1 : Int32} {w1 : Wd} {r2 : Int32} {w2 : Wd} {r3 : Int32} {w3 : Wd} {w : Wd} (hp : scp p) (h1 : w.1 0 5 = nI p) (h2 : ex 60 [.ref p, .int x1] w = some (some (.int r1), w1)) (h3 : ¬ r1 = 0) (h4 : w1.1 0 5 = nI p) (h5 : ex 61 [.ref p, .int x2] w1 = some (some (.int r2), w2)) (h6 : ¬ r2 = 0) (h7 : w2.1 0 5 = nI p) (h8 : ex 61 [.ref p, .int x3] w2 = some (some (.int r3), w3)) (h9 : ¬ r3 = 0) (h10 : ¬ x2 = x3) (h11 : ¬ x4 < 0) (h12 : ¬ 4 < x4) (h13 : ¬ x5 < 0) (h14 : 10 ≤ x5) : runs (T_X8_broom ex) (0, [.ref 0, .int x1, .int x2, .int x3, .int x4, .int x5, .int x6, .null], [], w) = some (some (.int (-1)), w3) := by
  rcases hp with rfl | rfl
  · exact (runs_stps (q' := (1, [.ref 0, .int x1, .int x2, .int x3, .int x4, .int x5, .int x6, .null], [.ref 0], w)) 1 rfl).trans <|
    (runs_getD (pc := 4) (L := [.ref 0, .int x1, .int x2, .int x3, .int x4, .int x5, .int x6, .null]) (st := []) (w := w) rfl h1 (by decide)).trans <|
    (runs_stps (q' := (5, [.ref 0, .int x1, .int x2, .int x3, .int x4, .int x5, .int x6, .null], [.int x1, .ref 20], w)) 1 rfl).trans <|
    (runs_callV (rv := some (.int r1)) (w' := w1) rfl rfl rfl rfl h2).trans <|
    (runs_if_f (a := 38) (b := 11) (L := [.ref 0, .int x1, .int x2, .int x3, .int x4, .int x5, .int x6, .null]) (st := []) (w := w1) rfl h3).trans <|
    (runs_stps (q' := (12, [.ref 0, .int x1, .int x2, .int x3, .int x4, .int x5, .int x6, .null], [.ref 0], w1)) 1 rfl).trans <|
    (runs_getD (pc := 15) (L := [.ref 0, .int x1, .int x2, .int x3, .int x4, .int x5, .int x6, .null]) (st := []) (w := w1) rfl h4 (by decide)).trans <|
    (runs_stps (q' := (16, [.ref 0, .int x1, .int x2, .int x3, .int x4, .int x5, .int x6, .null], [.int x2, .ref 20], w1)) 1 rfl).trans <|
    (runs_callV (rv := some (.int r2)) (w' := w2) rfl rfl rfl rfl h5).trans <|
    (runs_if_f (a := 38) (b := 22) (L := [.ref 0, .int x1, .int x2, .int x3, .int x4, .int x5, .int x6, .null]) (st := []) (w := w2) rfl h6).trans <|
    (runs_stps (q' := (23, [.ref 0, .int x1, .int x2, .int x3, .int x4, .int x5, .int x6, .null], [.ref 0], w2)) 1 rfl).trans <|
    (runs_getD (pc := 26) (L := [.ref 0, .int x1, .int x2, .int x3, .int x4, .int x5, .int x6, .null]) (st := []) (w := w2) rfl h7 (by decide)).trans <|
    (runs_stps (q' := (27, [.ref 0, .int x1, .int x2, .int x3, .int x4, .int x5, .int x6, .null], [.int x3, .ref 20], w2)) 1 rfl).trans <|
    (runs_callV (rv := some (.int r3)) (w' := w3) rfl rfl rfl rfl h8).trans <|
    (runs_if_f (a := 38) (b := 33) (L := [.ref 0, .int x1, .int x2, .int x3, .int x4, .int x5, .int x6, .null]) (st := []) (w := w3) rfl h9).trans <|
    (runs_stps (q' := (35, [.ref 0, .int x1, .int x2, .int x3, .int x4, .int x5, .int x6, .null], [.int x3, .int x2], w3)) 2 rfl).trans <|
    (runs_if_f (a := 38) (b := 40) (L := [.ref 0, .int x1, .int x2, .int x3, .int x4, .int x5, .int x6, .null]) (st := []) (w := w3) rfl h10).trans <|
    (runs_stps (q' := (42, [.ref 0, .int x1, .int x2, .int x3, .int x4, .int x5, .int x6, .null], [.int x4], w3)) 1 rfl).trans <|
    (runs_if_f (a := 71) (b := 45) (L := [.ref 0, .int x1, .int x2, .int x3, .int x4, .int x5, .int x6, .null]) (st := []) (w := w3) rfl h11).trans <|
    (runs_stps (q' := (48, [.ref 0, .int x1, .int x2, .int x3, .int x4, .int x5, .int x6, .null], [.int 4, .int x4], w3)) 2 rfl).trans <|
    (runs_if_f (a := 71) (b := 51) (L := [.ref 0, .int x1, .int x2, .int x3, .int x4, .int x5, .int x6, .null]) (st := []) (w := w3) rfl h12).trans <|
    (runs_stps (q' := (53, [.ref 0, .int x1, .int x2, .int x3, .int x4, .int x5, .int x6, .null], [.int x5], w3)) 1 rfl).trans <|
    (runs_if_f (a := 71) (b := 56) (L := [.ref 0, .int x1, .int x2, .int x3, .int x4, .int x5, .int x6, .null]) (st := []) (w := w3) rfl h13).trans <|
    (runs_stps (q' := (60, [.ref 0, .int x1, .int x2, .int x3, .int x4, .int x5, .int x6, .null], [.int 10, .int x5], w3)) 2 rfl).trans <|
    (runs_if_t (a := 71) (b := 63) (L := [.ref 0, .int x1, .int x2, .int x3, .int x4, .int x5, .int x6, .null]) (st := []) (w := w3) rfl h14).trans <|
    (runs_stps (q' := (72, [.null, .null, .null, .null, .null, .null, .null, .null], [.int (-1)], w3)) 1 rfl).trans <|
    runs_ret rfl
  · exact (runs_stps (q' := (1, [.ref 0, .int x1, .int x2, .int x3, .int x4, .int x5, .int x6, .null], [.ref 0], w)) 1 rfl).trans <|
    (runs_getD (pc := 4) (L := [.ref 0, .int x1, .int x2, .int x3, .int x4, .int x5, .int x6, .null]) (st := []) (w := w) rfl h1 (by decide)).trans <|
    (runs_stps (q' := (5, [.ref 0, .int x1, .int x2, .int x3, .int x4, .int x5, .int x6, .null], [.int x1, .ref 27], w)) 1 rfl).trans <|
    (runs_callV (rv := some (.int r1)) (w' := w1) rfl rfl rfl rfl h2).trans <|
    (runs_if_f (a := 38) (b := 11) (L := [.ref 0, .int x1, .int x2, .int x3, .int x4, .int x5, .int x6, .null]) (st := []) (w := w1) rfl h3).trans <|
    (runs_stps (q' := (12, [.ref 0, .int x1, .int x2, .int x3, .int x4, .int x5, .int x6, .null], [.ref 0], w1)) 1 rfl).trans <|
    (runs_getD (pc := 15) (L := [.ref 0, .int x1, .int x2, .int x3, .int x4, .int x5, .int x6, .null]) (st := []) (w := w1) rfl h4 (by decide)).trans <|
    (runs_stps (q' := (16, [.ref 0, .int x1, .int x2, .int x3, .int x4, .int x5, .int x6, .null], [.int x2, .ref 27], w1)) 1 rfl).trans <|
    (runs_callV (rv := some (.int r2)) (w' := w2) rfl rfl rfl rfl h5).trans <|
    (runs_if_f (a := 38) (b := 22) (L := [.ref 0, .int x1, .int x2, .int x3, .int x4, .int x5, .int x6, .null]) (st := []) (w := w2) rfl h6).trans <|
    (runs_stps (q' := (23, [.ref 0, .int x1, .int x2, .int x3, .int x4, .int x5, .int x6, .null], [.ref 0], w2)) 1 rfl).trans <|
    (runs_getD (pc := 26) (L := [.ref 0, .int x1, .int x2, .int x3, .int x4, .int x5, .int x6, .null]) (st := []) (w := w2) rfl h7 (by decide)).trans <|
    (runs_stps (q' := (27, [.ref 0, .int x1, .int x2, .int x3, .int x4, .int x5, .int x6, .null], [.int x3, .ref 27], w2)) 1 rfl).trans <|
    (runs_callV (rv := some (.int r3)) (w' := w3) rfl rfl rfl rfl h8).trans <|
    (runs_if_f (a := 38) (b := 33) (L := [.ref 0, .int x1, .int x2, .int x3, .int x4, .int x5, .int x6, .null]) (st := []) (w := w3) rfl h9).trans <|
    (runs_stps (q' := (35, [.ref 0, .int x1, .int x2, .int x3, .int x4, .int x5, .int x6, .null], [.int x3, .int x2], w3)) 2 rfl).trans <|
    (runs_if_f (a := 38) (b := 40) (L := [.ref 0, .int x1, .int x2, .int x3, .int x4, .int x5, .int x6, .null]) (st := []) (w := w3) rfl h10).trans <|
    (runs_stps (q' := (42, [.ref 0, .int x1, .int x2, .int x3, .int x4, .int x5, .int x6, .null], [.int x4], w3)) 1 rfl).trans <|
    (runs_if_f (a := 71) (b := 45) (L := [.ref 0, .int x1, .int x2, .int x3, .int x4, .int x5, .int x6, .null]) (st := []) (w := w3) rfl h11).trans <|
    (runs_stps (q' := (48, [.ref 0, .int x1, .int x2, .int x3, .int x4, .int x5, .int x6, .null], [.int 4, .int x4], w3)) 2 rfl).trans <|
    (runs_if_f (a := 71) (b := 51) (L := [.ref 0, .int x1, .int x2, .int x3, .int x4, .int x5, .int x6, .null]) (st := []) (w := w3) rfl h12).trans <|
    (runs_stps (q' := (53, [.ref 0, .int x1, .int x2, .int x3, .int x4, .int x5, .int x6, .null], [.int x5], w3)) 1 rfl).trans <|
    (runs_if_f (a := 71) (b := 56) (L := [.ref 0, .int x1, .int x2, .int x3, .int x4, .int x5, .int x6, .null]) (st := []) (w := w3) rfl h13).trans <|
    (runs_stps (q' := (60, [.ref 0, .int x1, .int x2, .int x3, .int x4, .int x5, .int x6, .null], [.int 10, .int x5], w3)) 2 rfl).trans <|
    (runs_if_t (a := 71) (b := 63) (L := [.ref 0, .int x1, .int x2, .int x3, .int x4, .int x5, .int x6, .null]) (st := []) (w := w3) rfl h14).trans <|
    (runs_stps (q' := (72, [.null, .null, .null, .null, .null, .null, .null, .null], [.int (-1)], w3)) 1 rfl).trans <|
    runs_ret rfl
theorem p_X8_broom_0FFFTFFFFTT_R {ex : Ex} {p : Nat} {x1 : Int32} {x2 : Int32} {x3 : Int32} {x4 : Int32} {x5 : Int32} {x6 : Int32} {r1 : Int32} {w1 : Wd} {r2 : Int32} {w2 : Wd} {r3 : Int32} {w3 : Wd} {r4 : Int32} {w4 : Wd} {r5 : Int32} {w5 : Wd} {r6 : Int32} {w6 : Wd} {w : Wd} (hp : scp p) (h1 : w.1 0 5 = nI p) (h2 : ex 60 [.ref p, .int x1] w = some (some (.int r1), w1)) (h3 : ¬ r1 = 0) (h4 : w1.1 0 5 = nI p) (h5 : ex 61 [.ref p, .int x2] w1 = some (some (.int r2), w2)) (h6 : ¬ r2 = 0) (h7 : w2.1 0 5 = nI p) (h8 : ex 61 [.ref p, .int x3] w2 = some (some (.int r3), w3)) (h9 : ¬ r3 = 0) (h10 : ¬ x2 = x3) (h11 : ¬ x4 < 0) (h12 : ¬ 4 < x4) (h13 : ¬ x5 < 0) (h14 : ¬ 10 ≤ x5) (h15 : ex 131 [.int x6] w3 = some (some (.int r4), w4)) (h16 : ¬ r4 = 0) (h17 : ex 92 [.ref 4, .int x1] w4 = some (some (.int r5), w5)) (h18 : ¬ x6 = 0) (h19 : w5.1 0 5 = nI p) (h20 : ex 1 [.ref p, .int r5, .int x2, .int x3, .int x5, .int x4] w5 = some (some (.int r6), w6)) : runs (T_X8_broom ex) (0, [.ref 0, .int x1, .int x2, .int x3, .int x4, .int x5, .int x6, .null], [], w) = some (some (.int r6), w6) := by
  rcases hp with rfl | rfl
  · exact (runs_stps (q' := (1, [.ref 0, .int x1, .int x2, .int x3, .int x4, .int x5, .int x6, .null], [.ref 0], w)) 1 rfl).trans <|
    (runs_getD (pc := 4) (L := [.ref 0, .int x1, .int x2, .int x3, .int x4, .int x5, .int x6, .null]) (st := []) (w := w) rfl h1 (by decide)).trans <|
    (runs_stps (q' := (5, [.ref 0, .int x1, .int x2, .int x3, .int x4, .int x5, .int x6, .null], [.int x1, .ref 20], w)) 1 rfl).trans <|
    (runs_callV (rv := some (.int r1)) (w' := w1) rfl rfl rfl rfl h2).trans <|
    (runs_if_f (a := 38) (b := 11) (L := [.ref 0, .int x1, .int x2, .int x3, .int x4, .int x5, .int x6, .null]) (st := []) (w := w1) rfl h3).trans <|
    (runs_stps (q' := (12, [.ref 0, .int x1, .int x2, .int x3, .int x4, .int x5, .int x6, .null], [.ref 0], w1)) 1 rfl).trans <|
    (runs_getD (pc := 15) (L := [.ref 0, .int x1, .int x2, .int x3, .int x4, .int x5, .int x6, .null]) (st := []) (w := w1) rfl h4 (by decide)).trans <|
    (runs_stps (q' := (16, [.ref 0, .int x1, .int x2, .int x3, .int x4, .int x5, .int x6, .null], [.int x2, .ref 20], w1)) 1 rfl).trans <|
    (runs_callV (rv := some (.int r2)) (w' := w2) rfl rfl rfl rfl h5).trans <|
    (runs_if_f (a := 38) (b := 22) (L := [.ref 0, .int x1, .int x2, .int x3, .int x4, .int x5, .int x6, .null]) (st := []) (w := w2) rfl h6).trans <|
    (runs_stps (q' := (23, [.ref 0, .int x1, .int x2, .int x3, .int x4, .int x5, .int x6, .null], [.ref 0], w2)) 1 rfl).trans <|
    (runs_getD (pc := 26) (L := [.ref 0, .int x1, .int x2, .int x3, .int x4, .int x5, .int x6, .null]) (st := []) (w := w2) rfl h7 (by decide)).trans <|
    (runs_stps (q' := (27, [.ref 0, .int x1, .int x2, .int x3, .int x4, .int x5, .int x6, .null], [.int x3, .ref 20], w2)) 1 rfl).trans <|
    (runs_callV (rv := some (.int r3)) (w' := w3) rfl rfl rfl rfl h8).trans <|
    (runs_if_f (a := 38) (b := 33) (L := [.ref 0, .int x1, .int x2, .int x3, .int x4, .int x5, .int x6, .null]) (st := []) (w := w3) rfl h9).trans <|
    (runs_stps (q' := (35, [.ref 0, .int x1, .int x2, .int x3, .int x4, .int x5, .int x6, .null], [.int x3, .int x2], w3)) 2 rfl).trans <|
    (runs_if_f (a := 38) (b := 40) (L := [.ref 0, .int x1, .int x2, .int x3, .int x4, .int x5, .int x6, .null]) (st := []) (w := w3) rfl h10).trans <|
    (runs_stps (q' := (42, [.ref 0, .int x1, .int x2, .int x3, .int x4, .int x5, .int x6, .null], [.int x4], w3)) 1 rfl).trans <|
    (runs_if_f (a := 71) (b := 45) (L := [.ref 0, .int x1, .int x2, .int x3, .int x4, .int x5, .int x6, .null]) (st := []) (w := w3) rfl h11).trans <|
    (runs_stps (q' := (48, [.ref 0, .int x1, .int x2, .int x3, .int x4, .int x5, .int x6, .null], [.int 4, .int x4], w3)) 2 rfl).trans <|
    (runs_if_f (a := 71) (b := 51) (L := [.ref 0, .int x1, .int x2, .int x3, .int x4, .int x5, .int x6, .null]) (st := []) (w := w3) rfl h12).trans <|
    (runs_stps (q' := (53, [.ref 0, .int x1, .int x2, .int x3, .int x4, .int x5, .int x6, .null], [.int x5], w3)) 1 rfl).trans <|
    (runs_if_f (a := 71) (b := 56) (L := [.ref 0, .int x1, .int x2, .int x3, .int x4, .int x5, .int x6, .null]) (st := []) (w := w3) rfl h13).trans <|
    (runs_stps (q' := (60, [.ref 0, .int x1, .int x2, .int x3, .int x4, .int x5, .int x6, .null], [.int 10, .int x5], w3)) 2 rfl).trans <|
    (runs_if_f (a := 71) (b := 63) (L := [.ref 0, .int x1, .int x2, .int x3, .int x4, .int x5, .int x6, .null]) (st := []) (w := w3) rfl h14).trans <|
    (runs_stps (q' := (65, [.ref 0, .int x1, .int x2, .int x3, .int x4, .int x5, .int x6, .null], [.int x6], w3)) 1 rfl).trans <|
    (runs_callS (rv := some (.int r4)) (w' := w4) rfl rfl rfl h15).trans <|
    (runs_if_f (a := 71) (b := 73) (L := [.ref 0, .int x1, .int x2, .int x3, .int x4, .int x5, .int x6, .null]) (st := []) (w := w4) rfl h16).trans <|
    (runs_stps (q' := (78, [.ref 0, .int x1, .int x2, .int x3, .int x4, .int x5, .int x6, .null], [.int x1, .ref 4], w4)) 3 rfl).trans <|
    (runs_callV (rv := some (.int r5)) (w' := w5) rfl rfl rfl rfl h17).trans <|
    (runs_stps (q' := (85, [.ref 0, .int x1, .int x2, .int x3, .int x4, .int x5, .int x6, .int r5], [.int x6], w5)) 2 rfl).trans <|
    (runs_if_f (a := 88) (b := 113) (L := [.ref 0, .int x1, .int x2, .int x3, .int x4, .int x5, .int x6, .int r5]) (st := []) (w := w5) rfl h18).trans <|
    (runs_stps (q' := (114, [.ref 0, .null, .int x2, .int x3, .int x4, .int x5, .null, .int r5], [.ref 0], w5)) 1 rfl).trans <|
    (runs_getD (pc := 117) (L := [.ref 0, .null, .int x2, .int x3, .int x4, .int x5, .null, .int r5]) (st := []) (w := w5) rfl h19 (by decide)).trans <|
    (runs_stps (q' := (125, [.ref 0, .null, .int x2, .int x3, .int x4, .int x5, .null, .int r5], [.int x4, .int x5, .int x3, .int x2, .int r5, .ref 20], w5)) 5 rfl).trans <|
    (runs_callS (rv := some (.int r6)) (w' := w6) rfl rfl rfl h20).trans <|
    runs_ret rfl
  · exact (runs_stps (q' := (1, [.ref 0, .int x1, .int x2, .int x3, .int x4, .int x5, .int x6, .null], [.ref 0], w)) 1 rfl).trans <|
    (runs_getD (pc := 4) (L := [.ref 0, .int x1, .int x2, .int x3, .int x4, .int x5, .int x6, .null]) (st := []) (w := w) rfl h1 (by decide)).trans <|
    (runs_stps (q' := (5, [.ref 0, .int x1, .int x2, .int x3, .int x4, .int x5, .int x6, .null], [.int x1, .ref 27], w)) 1 rfl).trans <|
    (runs_callV (rv := some (.int r1)) (w' := w1) rfl rfl rfl rfl h2).trans <|
    (runs_if_f (a := 38) (b := 11) (L := [.ref 0, .int x1, .int x2, .int x3, .int x4, .int x5, .int x6, .null]) (st := []) (w := w1) rfl h3).trans <|
    (runs_stps (q' := (12, [.ref 0, .int x1, .int x2, .int x3, .int x4, .int x5, .int x6, .null], [.ref 0], w1)) 1 rfl).trans <|
    (runs_getD (pc := 15) (L := [.ref 0, .int x1, .int x2, .int x3, .int x4, .int x5, .int x6, .null]) (st := []) (w := w1) rfl h4 (by decide)).trans <|
    (runs_stps (q' := (16, [.ref 0, .int x1, .int x2, .int x3, .int x4, .int x5, .int x6, .null], [.int x2, .ref 27], w1)) 1 rfl).trans <|
    (runs_callV (rv := some (.int r2)) (w' := w2) rfl rfl rfl rfl h5).trans <|
    (runs_if_f (a := 38) (b := 22) (L := [.ref 0, .int x1, .int x2, .int x3, .int x4, .int x5, .int x6, .null]) (st := []) (w := w2) rfl h6).trans <|
    (runs_stps (q' := (23, [.ref 0, .int x1, .int x2, .int x3, .int x4, .int x5, .int x6, .null], [.ref 0], w2)) 1 rfl).trans <|
    (runs_getD (pc := 26) (L := [.ref 0, .int x1, .int x2, .int x3, .int x4, .int x5, .int x6, .null]) (st := []) (w := w2) rfl h7 (by decide)).trans <|
    (runs_stps (q' := (27, [.ref 0, .int x1, .int x2, .int x3, .int x4, .int x5, .int x6, .null], [.int x3, .ref 27], w2)) 1 rfl).trans <|
    (runs_callV (rv := some (.int r3)) (w' := w3) rfl rfl rfl rfl h8).trans <|
    (runs_if_f (a := 38) (b := 33) (L := [.ref 0, .int x1, .int x2, .int x3, .int x4, .int x5, .int x6, .null]) (st := []) (w := w3) rfl h9).trans <|
    (runs_stps (q' := (35, [.ref 0, .int x1, .int x2, .int x3, .int x4, .int x5, .int x6, .null], [.int x3, .int x2], w3)) 2 rfl).trans <|
    (runs_if_f (a := 38) (b := 40) (L := [.ref 0, .int x1, .int x2, .int x3, .int x4, .int x5, .int x6, .null]) (st := []) (w := w3) rfl h10).trans <|
    (runs_stps (q' := (42, [.ref 0, .int x1, .int x2, .int x3, .int x4, .int x5, .int x6, .null], [.int x4], w3)) 1 rfl).trans <|
    (runs_if_f (a := 71) (b := 45) (L := [.ref 0, .int x1, .int x2, .int x3, .int x4, .int x5, .int x6, .null]) (st := []) (w := w3) rfl h11).trans <|
    (runs_stps (q' := (48, [.ref 0, .int x1, .int x2, .int x3, .int x4, .int x5, .int x6, .null], [.int 4, .int x4], w3)) 2 rfl).trans <|
    (runs_if_f (a := 71) (b := 51) (L := [.ref 0, .int x1, .int x2, .int x3, .int x4, .int x5, .int x6, .null]) (st := []) (w := w3) rfl h12).trans <|
    (runs_stps (q' := (53, [.ref 0, .int x1, .int x2, .int x3, .int x4, .int x5, .int x6, .null], [.int x5], w3)) 1 rfl).trans <|
    (runs_if_f (a := 71) (b := 56) (L := [.ref 0, .int x1, .int x2, .int x3, .int x4, .int x5, .int x6, .null]) (st := []) (w := w3) rfl h13).trans <|
    (runs_stps (q' := (60, [.ref 0, .int x1, .int x2, .int x3, .int x4, .int x5, .int x6, .null], [.int 10, .int x5], w3)) 2 rfl).trans <|
    (runs_if_f (a := 71) (b := 63) (L := [.ref 0, .int x1, .int x2, .int x3, .int x4, .int x5, .int x6, .null]) (st := []) (w := w3) rfl h14).trans <|
    (runs_stps (q' := (65, [.ref 0, .int x1, .int x2, .int x3, .int x4, .int x5, .int x6, .null], [.int x6], w3)) 1 rfl).trans <|
    (runs_callS (rv := some (.int r4)) (w' := w4) rfl rfl rfl h15).trans <|
    (runs_if_f (a := 71) (b := 73) (L := [.ref 0, .int x1, .int x2, .int x3, .int x4, .int x5, .int x6, .null]) (st := []) (w := w4) rfl h16).trans <|
    (runs_stps (q' := (78, [.ref 0, .int x1, .int x2, .int x3, .int x4, .int x5, .int x6, .null], [.int x1, .ref 4], w4)) 3 rfl).trans <|
    (runs_callV (rv := some (.int r5)) (w' := w5) rfl rfl rfl rfl h17).trans <|
    (runs_stps (q' := (85, [.ref 0, .int x1, .int x2, .int x3, .int x4, .int x5, .int x6, .int r5], [.int x6], w5)) 2 rfl).trans <|
    (runs_if_f (a := 88) (b := 113) (L := [.ref 0, .int x1, .int x2, .int x3, .int x4, .int x5, .int x6, .int r5]) (st := []) (w := w5) rfl h18).trans <|
    (runs_stps (q' := (114, [.ref 0, .null, .int x2, .int x3, .int x4, .int x5, .null, .int r5], [.ref 0], w5)) 1 rfl).trans <|
    (runs_getD (pc := 117) (L := [.ref 0, .null, .int x2, .int x3, .int x4, .int x5, .null, .int r5]) (st := []) (w := w5) rfl h19 (by decide)).trans <|
    (runs_stps (q' := (125, [.ref 0, .null, .int x2, .int x3, .int x4, .int x5, .null, .int r5], [.int x4, .int x5, .int x3, .int x2, .int r5, .ref 27], w5)) 5 rfl).trans <|
    (runs_callS (rv := some (.int r6)) (w' := w6) rfl rfl rfl h20).trans <|
    runs_ret rfl
theorem p_X8_broom_0FFFTFFFFTFT_R {ex : Ex} {p : Nat} {x1 : Int32} {x2 : Int32} {x3 : Int32} {x4 : Int32} {x5 : Int32} {x6 : Int32} {r1 : Int32} {w1 : Wd} {r2 : Int32} {w2 : Wd} {r3 : Int32} {w3 : Wd} {r4 : Int32} {w4 : Wd} {r5 : Int32} {w5 : Wd} {r6 : Int32} {w6 : Wd} {w : Wd} (hp : scp p) (h1 : w.1 0 5 = nI p) (h2 : ex 60 [.ref p, .int x1] w = some (some (.int r1), w1)) (h3 : ¬ r1 = 0) (h4 : w1.1 0 5 = nI p) (h5 : ex 61 [.ref p, .int x2] w1 = some (some (.int r2), w2)) (h6 : ¬ r2 = 0) (h7 : w2.1 0 5 = nI p) (h8 : ex 61 [.ref p, .int x3] w2 = some (some (.int r3), w3)) (h9 : ¬ r3 = 0) (h10 : ¬ x2 = x3) (h11 : ¬ x4 < 0) (h12 : ¬ 4 < x4) (h13 : ¬ x5 < 0) (h14 : ¬ 10 ≤ x5) (h15 : ex 131 [.int x6] w3 = some (some (.int r4), w4)) (h16 : ¬ r4 = 0) (h17 : ex 92 [.ref 4, .int x1] w4 = some (some (.int r5), w5)) (h18 : x6 = 0) (h19 : w5.1 0 5 = nI p) (h20 : ex 0 [.ref p, .int r5, .int x2, .int x3, .int x5, .int x4, .int 1] w5 = some (some (.int r6), w6)) (h21 : r6 = 0) : runs (T_X8_broom ex) (0, [.ref 0, .int x1, .int x2, .int x3, .int x4, .int x5, .int x6, .null], [], w) = some (some (.int 0), w6) := by
  rcases hp with rfl | rfl
  · exact (runs_stps (q' := (1, [.ref 0, .int x1, .int x2, .int x3, .int x4, .int x5, .int x6, .null], [.ref 0], w)) 1 rfl).trans <|
    (runs_getD (pc := 4) (L := [.ref 0, .int x1, .int x2, .int x3, .int x4, .int x5, .int x6, .null]) (st := []) (w := w) rfl h1 (by decide)).trans <|
    (runs_stps (q' := (5, [.ref 0, .int x1, .int x2, .int x3, .int x4, .int x5, .int x6, .null], [.int x1, .ref 20], w)) 1 rfl).trans <|
    (runs_callV (rv := some (.int r1)) (w' := w1) rfl rfl rfl rfl h2).trans <|
    (runs_if_f (a := 38) (b := 11) (L := [.ref 0, .int x1, .int x2, .int x3, .int x4, .int x5, .int x6, .null]) (st := []) (w := w1) rfl h3).trans <|
    (runs_stps (q' := (12, [.ref 0, .int x1, .int x2, .int x3, .int x4, .int x5, .int x6, .null], [.ref 0], w1)) 1 rfl).trans <|
    (runs_getD (pc := 15) (L := [.ref 0, .int x1, .int x2, .int x3, .int x4, .int x5, .int x6, .null]) (st := []) (w := w1) rfl h4 (by decide)).trans <|
    (runs_stps (q' := (16, [.ref 0, .int x1, .int x2, .int x3, .int x4, .int x5, .int x6, .null], [.int x2, .ref 20], w1)) 1 rfl).trans <|
    (runs_callV (rv := some (.int r2)) (w' := w2) rfl rfl rfl rfl h5).trans <|
    (runs_if_f (a := 38) (b := 22) (L := [.ref 0, .int x1, .int x2, .int x3, .int x4, .int x5, .int x6, .null]) (st := []) (w := w2) rfl h6).trans <|
    (runs_stps (q' := (23, [.ref 0, .int x1, .int x2, .int x3, .int x4, .int x5, .int x6, .null], [.ref 0], w2)) 1 rfl).trans <|
    (runs_getD (pc := 26) (L := [.ref 0, .int x1, .int x2, .int x3, .int x4, .int x5, .int x6, .null]) (st := []) (w := w2) rfl h7 (by decide)).trans <|
    (runs_stps (q' := (27, [.ref 0, .int x1, .int x2, .int x3, .int x4, .int x5, .int x6, .null], [.int x3, .ref 20], w2)) 1 rfl).trans <|
    (runs_callV (rv := some (.int r3)) (w' := w3) rfl rfl rfl rfl h8).trans <|
    (runs_if_f (a := 38) (b := 33) (L := [.ref 0, .int x1, .int x2, .int x3, .int x4, .int x5, .int x6, .null]) (st := []) (w := w3) rfl h9).trans <|
    (runs_stps (q' := (35, [.ref 0, .int x1, .int x2, .int x3, .int x4, .int x5, .int x6, .null], [.int x3, .int x2], w3)) 2 rfl).trans <|
    (runs_if_f (a := 38) (b := 40) (L := [.ref 0, .int x1, .int x2, .int x3, .int x4, .int x5, .int x6, .null]) (st := []) (w := w3) rfl h10).trans <|
    (runs_stps (q' := (42, [.ref 0, .int x1, .int x2, .int x3, .int x4, .int x5, .int x6, .null], [.int x4], w3)) 1 rfl).trans <|
    (runs_if_f (a := 71) (b := 45) (L := [.ref 0, .int x1, .int x2, .int x3, .int x4, .int x5, .int x6, .null]) (st := []) (w := w3) rfl h11).trans <|
    (runs_stps (q' := (48, [.ref 0, .int x1, .int x2, .int x3, .int x4, .int x5, .int x6, .null], [.int 4, .int x4], w3)) 2 rfl).trans <|
    (runs_if_f (a := 71) (b := 51) (L := [.ref 0, .int x1, .int x2, .int x3, .int x4, .int x5, .int x6, .null]) (st := []) (w := w3) rfl h12).trans <|
    (runs_stps (q' := (53, [.ref 0, .int x1, .int x2, .int x3, .int x4, .int x5, .int x6, .null], [.int x5], w3)) 1 rfl).trans <|
    (runs_if_f (a := 71) (b := 56) (L := [.ref 0, .int x1, .int x2, .int x3, .int x4, .int x5, .int x6, .null]) (st := []) (w := w3) rfl h13).trans <|
    (runs_stps (q' := (60, [.ref 0, .int x1, .int x2, .int x3, .int x4, .int x5, .int x6, .null], [.int 10, .int x5], w3)) 2 rfl).trans <|
    (runs_if_f (a := 71) (b := 63) (L := [.ref 0, .int x1, .int x2, .int x3, .int x4, .int x5, .int x6, .null]) (st := []) (w := w3) rfl h14).trans <|
    (runs_stps (q' := (65, [.ref 0, .int x1, .int x2, .int x3, .int x4, .int x5, .int x6, .null], [.int x6], w3)) 1 rfl).trans <|
    (runs_callS (rv := some (.int r4)) (w' := w4) rfl rfl rfl h15).trans <|
    (runs_if_f (a := 71) (b := 73) (L := [.ref 0, .int x1, .int x2, .int x3, .int x4, .int x5, .int x6, .null]) (st := []) (w := w4) rfl h16).trans <|
    (runs_stps (q' := (78, [.ref 0, .int x1, .int x2, .int x3, .int x4, .int x5, .int x6, .null], [.int x1, .ref 4], w4)) 3 rfl).trans <|
    (runs_callV (rv := some (.int r5)) (w' := w5) rfl rfl rfl rfl h17).trans <|
    (runs_stps (q' := (85, [.ref 0, .int x1, .int x2, .int x3, .int x4, .int x5, .int x6, .int r5], [.int x6], w5)) 2 rfl).trans <|
    (runs_if_t (a := 88) (b := 113) (L := [.ref 0, .int x1, .int x2, .int x3, .int x4, .int x5, .int x6, .int r5]) (st := []) (w := w5) rfl h18).trans <|
    (runs_stps (q' := (89, [.ref 0, .int x1, .int x2, .int x3, .int x4, .int x5, .int x6, .int r5], [.ref 0], w5)) 1 rfl).trans <|
    (runs_getD (pc := 92) (L := [.ref 0, .int x1, .int x2, .int x3, .int x4, .int x5, .int x6, .int r5]) (st := []) (w := w5) rfl h19 (by decide)).trans <|
    (runs_stps (q' := (101, [.ref 0, .int x1, .int x2, .int x3, .int x4, .int x5, .int x6, .int r5], [.int 1, .int x4, .int x5, .int x3, .int x2, .int r5, .ref 20], w5)) 6 rfl).trans <|
    (runs_callS (rv := some (.int r6)) (w' := w6) rfl rfl rfl h20).trans <|
    (runs_if_t (a := 111) (b := 107) (L := [.ref 0, .int x1, .int x2, .int x3, .int x4, .int x5, .int x6, .int r5]) (st := []) (w := w6) rfl h21).trans <|
    (runs_stps (q' := (112, [.null, .null, .null, .null, .null, .null, .null, .null], [.int 0], w6)) 1 rfl).trans <|
    runs_ret rfl
  · exact (runs_stps (q' := (1, [.ref 0, .int x1, .int x2, .int x3, .int x4, .int x5, .int x6, .null], [.ref 0], w)) 1 rfl).trans <|
    (runs_getD (pc := 4) (L := [.ref 0, .int x1, .int x2, .int x3, .int x4, .int x5, .int x6, .null]) (st := []) (w := w) rfl h1 (by decide)).trans <|
    (runs_stps (q' := (5, [.ref 0, .int x1, .int x2, .int x3, .int x4, .int x5, .int x6, .null], [.int x1, .ref 27], w)) 1 rfl).trans <|
    (runs_callV (rv := some (.int r1)) (w' := w1) rfl rfl rfl rfl h2).trans <|
    (runs_if_f (a := 38) (b := 11) (L := [.ref 0, .int x1, .int x2, .int x3, .int x4, .int x5, .int x6, .null]) (st := []) (w := w1) rfl h3).trans <|
    (runs_stps (q' := (12, [.ref 0, .int x1, .int x2, .int x3, .int x4, .int x5, .int x6, .null], [.ref 0], w1)) 1 rfl).trans <|
    (runs_getD (pc := 15) (L := [.ref 0, .int x1, .int x2, .int x3, .int x4, .int x5, .int x6, .null]) (st := []) (w := w1) rfl h4 (by decide)).trans <|
    (runs_stps (q' := (16, [.ref 0, .int x1, .int x2, .int x3, .int x4, .int x5, .int x6, .null], [.int x2, .ref 27], w1)) 1 rfl).trans <|
    (runs_callV (rv := some (.int r2)) (w' := w2) rfl rfl rfl rfl h5).trans <|
    (runs_if_f (a := 38) (b := 22) (L := [.ref 0, .int x1, .int x2, .int x3, .int x4, .int x5, .int x6, .null]) (st := []) (w := w2) rfl h6).trans <|
    (runs_stps (q' := (23, [.ref 0, .int x1, .int x2, .int x3, .int x4, .int x5, .int x6, .null], [.ref 0], w2)) 1 rfl).trans <|
    (runs_getD (pc := 26) (L := [.ref 0, .int x1, .int x2, .int x3, .int x4, .int x5, .int x6, .null]) (st := []) (w := w2) rfl h7 (by decide)).trans <|
    (runs_stps (q' := (27, [.ref 0, .int x1, .int x2, .int x3, .int x4, .int x5, .int x6, .null], [.int x3, .ref 27], w2)) 1 rfl).trans <|
    (runs_callV (rv := some (.int r3)) (w' := w3) rfl rfl rfl rfl h8).trans <|
    (runs_if_f (a := 38) (b := 33) (L := [.ref 0, .int x1, .int x2, .int x3, .int x4, .int x5, .int x6, .null]) (st := []) (w := w3) rfl h9).trans <|
    (runs_stps (q' := (35, [.ref 0, .int x1, .int x2, .int x3, .int x4, .int x5, .int x6, .null], [.int x3, .int x2], w3)) 2 rfl).trans <|
    (runs_if_f (a := 38) (b := 40) (L := [.ref 0, .int x1, .int x2, .int x3, .int x4, .int x5, .int x6, .null]) (st := []) (w := w3) rfl h10).trans <|
    (runs_stps (q' := (42, [.ref 0, .int x1, .int x2, .int x3, .int x4, .int x5, .int x6, .null], [.int x4], w3)) 1 rfl).trans <|
    (runs_if_f (a := 71) (b := 45) (L := [.ref 0, .int x1, .int x2, .int x3, .int x4, .int x5, .int x6, .null]) (st := []) (w := w3) rfl h11).trans <|
    (runs_stps (q' := (48, [.ref 0, .int x1, .int x2, .int x3, .int x4, .int x5, .int x6, .null], [.int 4, .int x4], w3)) 2 rfl).trans <|
    (runs_if_f (a := 71) (b := 51) (L := [.ref 0, .int x1, .int x2, .int x3, .int x4, .int x5, .int x6, .null]) (st := []) (w := w3) rfl h12).trans <|
    (runs_stps (q' := (53, [.ref 0, .int x1, .int x2, .int x3, .int x4, .int x5, .int x6, .null], [.int x5], w3)) 1 rfl).trans <|
    (runs_if_f (a := 71) (b := 56) (L := [.ref 0, .int x1, .int x2, .int x3, .int x4, .int x5, .int x6, .null]) (st := []) (w := w3) rfl h13).trans <|
    (runs_stps (q' := (60, [.ref 0, .int x1, .int x2, .int x3, .int x4, .int x5, .int x6, .null], [.int 10, .int x5], w3)) 2 rfl).trans <|
    (runs_if_f (a := 71) (b := 63) (L := [.ref 0, .int x1, .int x2, .int x3, .int x4, .int x5, .int x6, .null]) (st := []) (w := w3) rfl h14).trans <|
    (runs_stps (q' := (65, [.ref 0, .int x1, .int x2, .int x3, .int x4, .int x5, .int x6, .null], [.int x6], w3)) 1 rfl).trans <|
    (runs_callS (rv := some (.int r4)) (w' := w4) rfl rfl rfl h15).trans <|
    (runs_if_f (a := 71) (b := 73) (L := [.ref 0, .int x1, .int x2, .int x3, .int x4, .int x5, .int x6, .null]) (st := []) (w := w4) rfl h16).trans <|
    (runs_stps (q' := (78, [.ref 0, .int x1, .int x2, .int x3, .int x4, .int x5, .int x6, .null], [.int x1, .ref 4], w4)) 3 rfl).trans <|
    (runs_callV (rv := some (.int r5)) (w' := w5) rfl rfl rfl rfl h17).trans <|
    (runs_stps (q' := (85, [.ref 0, .int x1, .int x2, .int x3, .int x4, .int x5, .int x6, .int r5], [.int x6], w5)) 2 rfl).trans <|
    (runs_if_t (a := 88) (b := 113) (L := [.ref 0, .int x1, .int x2, .int x3, .int x4, .int x5, .int x6, .int r5]) (st := []) (w := w5) rfl h18).trans <|
    (runs_stps (q' := (89, [.ref 0, .int x1, .int x2, .int x3, .int x4, .int x5, .int x6, .int r5], [.ref 0], w5)) 1 rfl).trans <|
    (runs_getD (pc := 92) (L := [.ref 0, .int x1, .int x2, .int x3, .int x4, .int x5, .int x6, .int r5]) (st := []) (w := w5) rfl h19 (by decide)).trans <|
    (runs_stps (q' := (101, [.ref 0, .int x1, .int x2, .int x3, .int x4, .int x5, .int x6, .int r5], [.int 1, .int x4, .int x5, .int x3, .int x2, .int r5, .ref 27], w5)) 6 rfl).trans <|
    (runs_callS (rv := some (.int r6)) (w' := w6) rfl rfl rfl h20).trans <|
    (runs_if_t (a := 111) (b := 107) (L := [.ref 0, .int x1, .int x2, .int x3, .int x4, .int x5, .int x6, .int r5]) (st := []) (w := w6) rfl h21).trans <|
    (runs_stps (q' := (112, [.null, .null, .null, .null, .null, .null, .null, .null], [.int 0], w6)) 1 rfl).trans <|
    runs_ret rfl
theorem p_X8_broom_0FFFTFFFFTFF_R {ex : Ex} {p : Nat} {x1 : Int32} {x2 : Int32} {x3 : Int32} {x4 : Int32} {x5 : Int32} {x6 : Int32} {r1 : Int32} {w1 : Wd} {r2 : Int32} {w2 : Wd} {r3 : Int32} {w3 : Wd} {r4 : Int32} {w4 : Wd} {r5 : Int32} {w5 : Wd} {r6 : Int32} {w6 : Wd} {w : Wd} (hp : scp p) (h1 : w.1 0 5 = nI p) (h2 : ex 60 [.ref p, .int x1] w = some (some (.int r1), w1)) (h3 : ¬ r1 = 0) (h4 : w1.1 0 5 = nI p) (h5 : ex 61 [.ref p, .int x2] w1 = some (some (.int r2), w2)) (h6 : ¬ r2 = 0) (h7 : w2.1 0 5 = nI p) (h8 : ex 61 [.ref p, .int x3] w2 = some (some (.int r3), w3)) (h9 : ¬ r3 = 0) (h10 : ¬ x2 = x3) (h11 : ¬ x4 < 0) (h12 : ¬ 4 < x4) (h13 : ¬ x5 < 0) (h14 : ¬ 10 ≤ x5) (h15 : ex 131 [.int x6] w3 = some (some (.int r4), w4)) (h16 : ¬ r4 = 0) (h17 : ex 92 [.ref 4, .int x1] w4 = some (some (.int r5), w5)) (h18 : x6 = 0) (h19 : w5.1 0 5 = nI p) (h20 : ex 0 [.ref p, .int r5, .int x2, .int x3, .int x5, .int x4, .int 1] w5 = some (some (.int r6), w6)) (h21 : ¬ r6 = 0) : runs (T_X8_broom ex) (0, [.ref 0, .int x1, .int x2, .int x3, .int x4, .int x5, .int x6, .null], [], w) = some (some (.int 1), w6) := by
  rcases hp with rfl | rfl
  · exact (runs_stps (q' := (1, [.ref 0, .int x1, .int x2, .int x3, .int x4, .int x5, .int x6, .null], [.ref 0], w)) 1 rfl).trans <|
    (runs_getD (pc := 4) (L := [.ref 0, .int x1, .int x2, .int x3, .int x4, .int x5, .int x6, .null]) (st := []) (w := w) rfl h1 (by decide)).trans <|
    (runs_stps (q' := (5, [.ref 0, .int x1, .int x2, .int x3, .int x4, .int x5, .int x6, .null], [.int x1, .ref 20], w)) 1 rfl).trans <|
    (runs_callV (rv := some (.int r1)) (w' := w1) rfl rfl rfl rfl h2).trans <|
    (runs_if_f (a := 38) (b := 11) (L := [.ref 0, .int x1, .int x2, .int x3, .int x4, .int x5, .int x6, .null]) (st := []) (w := w1) rfl h3).trans <|
    (runs_stps (q' := (12, [.ref 0, .int x1, .int x2, .int x3, .int x4, .int x5, .int x6, .null], [.ref 0], w1)) 1 rfl).trans <|
    (runs_getD (pc := 15) (L := [.ref 0, .int x1, .int x2, .int x3, .int x4, .int x5, .int x6, .null]) (st := []) (w := w1) rfl h4 (by decide)).trans <|
    (runs_stps (q' := (16, [.ref 0, .int x1, .int x2, .int x3, .int x4, .int x5, .int x6, .null], [.int x2, .ref 20], w1)) 1 rfl).trans <|
    (runs_callV (rv := some (.int r2)) (w' := w2) rfl rfl rfl rfl h5).trans <|
    (runs_if_f (a := 38) (b := 22) (L := [.ref 0, .int x1, .int x2, .int x3, .int x4, .int x5, .int x6, .null]) (st := []) (w := w2) rfl h6).trans <|
    (runs_stps (q' := (23, [.ref 0, .int x1, .int x2, .int x3, .int x4, .int x5, .int x6, .null], [.ref 0], w2)) 1 rfl).trans <|
    (runs_getD (pc := 26) (L := [.ref 0, .int x1, .int x2, .int x3, .int x4, .int x5, .int x6, .null]) (st := []) (w := w2) rfl h7 (by decide)).trans <|
    (runs_stps (q' := (27, [.ref 0, .int x1, .int x2, .int x3, .int x4, .int x5, .int x6, .null], [.int x3, .ref 20], w2)) 1 rfl).trans <|
    (runs_callV (rv := some (.int r3)) (w' := w3) rfl rfl rfl rfl h8).trans <|
    (runs_if_f (a := 38) (b := 33) (L := [.ref 0, .int x1, .int x2, .int x3, .int x4, .int x5, .int x6, .null]) (st := []) (w := w3) rfl h9).trans <|
    (runs_stps (q' := (35, [.ref 0, .int x1, .int x2, .int x3, .int x4, .int x5, .int x6, .null], [.int x3, .int x2], w3)) 2 rfl).trans <|
    (runs_if_f (a := 38) (b := 40) (L := [.ref 0, .int x1, .int x2, .int x3, .int x4, .int x5, .int x6, .null]) (st := []) (w := w3) rfl h10).trans <|
    (runs_stps (q' := (42, [.ref 0, .int x1, .int x2, .int x3, .int x4, .int x5, .int x6, .null], [.int x4], w3)) 1 rfl).trans <|
    (runs_if_f (a := 71) (b := 45) (L := [.ref 0, .int x1, .int x2, .int x3, .int x4, .int x5, .int x6, .null]) (st := []) (w := w3) rfl h11).trans <|
    (runs_stps (q' := (48, [.ref 0, .int x1, .int x2, .int x3, .int x4, .int x5, .int x6, .null], [.int 4, .int x4], w3)) 2 rfl).trans <|
    (runs_if_f (a := 71) (b := 51) (L := [.ref 0, .int x1, .int x2, .int x3, .int x4, .int x5, .int x6, .null]) (st := []) (w := w3) rfl h12).trans <|
    (runs_stps (q' := (53, [.ref 0, .int x1, .int x2, .int x3, .int x4, .int x5, .int x6, .null], [.int x5], w3)) 1 rfl).trans <|
    (runs_if_f (a := 71) (b := 56) (L := [.ref 0, .int x1, .int x2, .int x3, .int x4, .int x5, .int x6, .null]) (st := []) (w := w3) rfl h13).trans <|
    (runs_stps (q' := (60, [.ref 0, .int x1, .int x2, .int x3, .int x4, .int x5, .int x6, .null], [.int 10, .int x5], w3)) 2 rfl).trans <|
    (runs_if_f (a := 71) (b := 63) (L := [.ref 0, .int x1, .int x2, .int x3, .int x4, .int x5, .int x6, .null]) (st := []) (w := w3) rfl h14).trans <|
    (runs_stps (q' := (65, [.ref 0, .int x1, .int x2, .int x3, .int x4, .int x5, .int x6, .null], [.int x6], w3)) 1 rfl).trans <|
    (runs_callS (rv := some (.int r4)) (w' := w4) rfl rfl rfl h15).trans <|
    (runs_if_f (a := 71) (b := 73) (L := [.ref 0, .int x1, .int x2, .int x3, .int x4, .int x5, .int x6, .null]) (st := []) (w := w4) rfl h16).trans <|
    (runs_stps (q' := (78, [.ref 0, .int x1, .int x2, .int x3, .int x4, .int x5, .int x6, .null], [.int x1, .ref 4], w4)) 3 rfl).trans <|
    (runs_callV (rv := some (.int r5)) (w' := w5) rfl rfl rfl rfl h17).trans <|
    (runs_stps (q' := (85, [.ref 0, .int x1, .int x2, .int x3, .int x4, .int x5, .int x6, .int r5], [.int x6], w5)) 2 rfl).trans <|
    (runs_if_t (a := 88) (b := 113) (L := [.ref 0, .int x1, .int x2, .int x3, .int x4, .int x5, .int x6, .int r5]) (st := []) (w := w5) rfl h18).trans <|
    (runs_stps (q' := (89, [.ref 0, .int x1, .int x2, .int x3, .int x4, .int x5, .int x6, .int r5], [.ref 0], w5)) 1 rfl).trans <|
    (runs_getD (pc := 92) (L := [.ref 0, .int x1, .int x2, .int x3, .int x4, .int x5, .int x6, .int r5]) (st := []) (w := w5) rfl h19 (by decide)).trans <|
    (runs_stps (q' := (101, [.ref 0, .int x1, .int x2, .int x3, .int x4, .int x5, .int x6, .int r5], [.int 1, .int x4, .int x5, .int x3, .int x2, .int r5, .ref 20], w5)) 6 rfl).trans <|
    (runs_callS (rv := some (.int r6)) (w' := w6) rfl rfl rfl h20).trans <|
    (runs_if_f (a := 111) (b := 107) (L := [.ref 0, .int x1, .int x2, .int x3, .int x4, .int x5, .int x6, .int r5]) (st := []) (w := w6) rfl h21).trans <|
    (runs_stps (q' := (112, [.ref 0, .int x1, .int x2, .int x3, .int x4, .int x5, .int x6, .int r5], [.int 1], w6)) 2 rfl).trans <|
    runs_ret rfl
  · exact (runs_stps (q' := (1, [.ref 0, .int x1, .int x2, .int x3, .int x4, .int x5, .int x6, .null], [.ref 0], w)) 1 rfl).trans <|
    (runs_getD (pc := 4) (L := [.ref 0, .int x1, .int x2, .int x3, .int x4, .int x5, .int x6, .null]) (st := []) (w := w) rfl h1 (by decide)).trans <|
    (runs_stps (q' := (5, [.ref 0, .int x1, .int x2, .int x3, .int x4, .int x5, .int x6, .null], [.int x1, .ref 27], w)) 1 rfl).trans <|
    (runs_callV (rv := some (.int r1)) (w' := w1) rfl rfl rfl rfl h2).trans <|
    (runs_if_f (a := 38) (b := 11) (L := [.ref 0, .int x1, .int x2, .int x3, .int x4, .int x5, .int x6, .null]) (st := []) (w := w1) rfl h3).trans <|
    (runs_stps (q' := (12, [.ref 0, .int x1, .int x2, .int x3, .int x4, .int x5, .int x6, .null], [.ref 0], w1)) 1 rfl).trans <|
    (runs_getD (pc := 15) (L := [.ref 0, .int x1, .int x2, .int x3, .int x4, .int x5, .int x6, .null]) (st := []) (w := w1) rfl h4 (by decide)).trans <|
    (runs_stps (q' := (16, [.ref 0, .int x1, .int x2, .int x3, .int x4, .int x5, .int x6, .null], [.int x2, .ref 27], w1)) 1 rfl).trans <|
    (runs_callV (rv := some (.int r2)) (w' := w2) rfl rfl rfl rfl h5).trans <|
    (runs_if_f (a := 38) (b := 22) (L := [.ref 0, .int x1, .int x2, .int x3, .int x4, .int x5, .int x6, .null]) (st := []) (w := w2) rfl h6).trans <|
    (runs_stps (q' := (23, [.ref 0, .int x1, .int x2, .int x3, .int x4, .int x5, .int x6, .null], [.ref 0], w2)) 1 rfl).trans <|
    (runs_getD (pc := 26) (L := [.ref 0, .int x1, .int x2, .int x3, .int x4, .int x5, .int x6, .null]) (st := []) (w := w2) rfl h7 (by decide)).trans <|
    (runs_stps (q' := (27, [.ref 0, .int x1, .int x2, .int x3, .int x4, .int x5, .int x6, .null], [.int x3, .ref 27], w2)) 1 rfl).trans <|
    (runs_callV (rv := some (.int r3)) (w' := w3) rfl rfl rfl rfl h8).trans <|
    (runs_if_f (a := 38) (b := 33) (L := [.ref 0, .int x1, .int x2, .int x3, .int x4, .int x5, .int x6, .null]) (st := []) (w := w3) rfl h9).trans <|
    (runs_stps (q' := (35, [.ref 0, .int x1, .int x2, .int x3, .int x4, .int x5, .int x6, .null], [.int x3, .int x2], w3)) 2 rfl).trans <|
    (runs_if_f (a := 38) (b := 40) (L := [.ref 0, .int x1, .int x2, .int x3, .int x4, .int x5, .int x6, .null]) (st := []) (w := w3) rfl h10).trans <|
    (runs_stps (q' := (42, [.ref 0, .int x1, .int x2, .int x3, .int x4, .int x5, .int x6, .null], [.int x4], w3)) 1 rfl).trans <|
    (runs_if_f (a := 71) (b := 45) (L := [.ref 0, .int x1, .int x2, .int x3, .int x4, .int x5, .int x6, .null]) (st := []) (w := w3) rfl h11).trans <|
    (runs_stps (q' := (48, [.ref 0, .int x1, .int x2, .int x3, .int x4, .int x5, .int x6, .null], [.int 4, .int x4], w3)) 2 rfl).trans <|
    (runs_if_f (a := 71) (b := 51) (L := [.ref 0, .int x1, .int x2, .int x3, .int x4, .int x5, .int x6, .null]) (st := []) (w := w3) rfl h12).trans <|
    (runs_stps (q' := (53, [.ref 0, .int x1, .int x2, .int x3, .int x4, .int x5, .int x6, .null], [.int x5], w3)) 1 rfl).trans <|
    (runs_if_f (a := 71) (b := 56) (L := [.ref 0, .int x1, .int x2, .int x3, .int x4, .int x5, .int x6, .null]) (st := []) (w := w3) rfl h13).trans <|
    (runs_stps (q' := (60, [.ref 0, .int x1, .int x2, .int x3, .int x4, .int x5, .int x6, .null], [.int 10, .int x5], w3)) 2 rfl).trans <|
    (runs_if_f (a := 71) (b := 63) (L := [.ref 0, .int x1, .int x2, .int x3, .int x4, .int x5, .int x6, .null]) (st := []) (w := w3) rfl h14).trans <|
    (runs_stps (q' := (65, [.ref 0, .int x1, .int x2, .int x3, .int x4, .int x5, .int x6, .null], [.int x6], w3)) 1 rfl).trans <|
    (runs_callS (rv := some (.int r4)) (w' := w4) rfl rfl rfl h15).trans <|
    (runs_if_f (a := 71) (b := 73) (L := [.ref 0, .int x1, .int x2, .int x3, .int x4, .int x5, .int x6, .null]) (st := []) (w := w4) rfl h16).trans <|
    (runs_stps (q' := (78, [.ref 0, .int x1, .int x2, .int x3, .int x4, .int x5, .int x6, .null], [.int x1, .ref 4], w4)) 3 rfl).trans <|
    (runs_callV (rv := some (.int r5)) (w' := w5) rfl rfl rfl rfl h17).trans <|
    (runs_stps (q' := (85, [.ref 0, .int x1, .int x2, .int x3, .int x4, .int x5, .int x6, .int r5], [.int x6], w5)) 2 rfl).trans <|
    (runs_if_t (a := 88) (b := 113) (L := [.ref 0, .int x1, .int x2, .int x3, .int x4, .int x5, .int x6, .int r5]) (st := []) (w := w5) rfl h18).trans <|
    (runs_stps (q' := (89, [.ref 0, .int x1, .int x2, .int x3, .int x4, .int x5, .int x6, .int r5], [.ref 0], w5)) 1 rfl).trans <|
    (runs_getD (pc := 92) (L := [.ref 0, .int x1, .int x2, .int x3, .int x4, .int x5, .int x6, .int r5]) (st := []) (w := w5) rfl h19 (by decide)).trans <|
    (runs_stps (q' := (101, [.ref 0, .int x1, .int x2, .int x3, .int x4, .int x5, .int x6, .int r5], [.int 1, .int x4, .int x5, .int x3, .int x2, .int r5, .ref 27], w5)) 6 rfl).trans <|
    (runs_callS (rv := some (.int r6)) (w' := w6) rfl rfl rfl h20).trans <|
    (runs_if_f (a := 111) (b := 107) (L := [.ref 0, .int x1, .int x2, .int x3, .int x4, .int x5, .int x6, .int r5]) (st := []) (w := w6) rfl h21).trans <|
    (runs_stps (q' := (112, [.ref 0, .int x1, .int x2, .int x3, .int x4, .int x5, .int x6, .int r5], [.int 1], w6)) 2 rfl).trans <|
    runs_ret rfl
theorem p_X8_broom_0FFFTFFFFF_R {ex : Ex} {p : Nat} {x1 : Int32} {x2 : Int32} {x3 : Int32} {x4 : Int32} {x5 : Int32} {x6 : Int32} {r1 : Int32} {w1 : Wd} {r2 : Int32} {w2 : Wd} {r3 : Int32} {w3 : Wd} {r4 : Int32} {w4 : Wd} {w : Wd} (hp : scp p) (h1 : w.1 0 5 = nI p) (h2 : ex 60 [.ref p, .int x1] w = some (some (.int r1), w1)) (h3 : ¬ r1 = 0) (h4 : w1.1 0 5 = nI p) (h5 : ex 61 [.ref p, .int x2] w1 = some (some (.int r2), w2)) (h6 : ¬ r2 = 0) (h7 : w2.1 0 5 = nI p) (h8 : ex 61 [.ref p, .int x3] w2 = some (some (.int r3), w3)) (h9 : ¬ r3 = 0) (h10 : ¬ x2 = x3) (h11 : ¬ x4 < 0) (h12 : ¬ 4 < x4) (h13 : ¬ x5 < 0) (h14 : ¬ 10 ≤ x5) (h15 : ex 131 [.int x6] w3 = some (some (.int r4), w4)) (h16 : r4 = 0) : runs (T_X8_broom ex) (0, [.ref 0, .int x1, .int x2, .int x3, .int x4, .int x5, .int x6, .null], [], w) = some (some (.int (-1)), w4) := by
  rcases hp with rfl | rfl
  · exact (runs_stps (q' := (1, [.ref 0, .int x1, .int x2, .int x3, .int x4, .int x5, .int x6, .null], [.ref 0], w)) 1 rfl).trans <|
    (runs_getD (pc := 4) (L := [.ref 0, .int x1, .int x2, .int x3, .int x4, .int x5, .int x6, .null]) (st := []) (w := w) rfl h1 (by decide)).trans <|
    (runs_stps (q' := (5, [.ref 0, .int x1, .int x2, .int x3, .int x4, .int x5, .int x6, .null], [.int x1, .ref 20], w)) 1 rfl).trans <|
    (runs_callV (rv := some (.int r1)) (w' := w1) rfl rfl rfl rfl h2).trans <|
    (runs_if_f (a := 38) (b := 11) (L := [.ref 0, .int x1, .int x2, .int x3, .int x4, .int x5, .int x6, .null]) (st := []) (w := w1) rfl h3).trans <|
    (runs_stps (q' := (12, [.ref 0, .int x1, .int x2, .int x3, .int x4, .int x5, .int x6, .null], [.ref 0], w1)) 1 rfl).trans <|
    (runs_getD (pc := 15) (L := [.ref 0, .int x1, .int x2, .int x3, .int x4, .int x5, .int x6, .null]) (st := []) (w := w1) rfl h4 (by decide)).trans <|
    (runs_stps (q' := (16, [.ref 0, .int x1, .int x2, .int x3, .int x4, .int x5, .int x6, .null], [.int x2, .ref 20], w1)) 1 rfl).trans <|
    (runs_callV (rv := some (.int r2)) (w' := w2) rfl rfl rfl rfl h5).trans <|
    (runs_if_f (a := 38) (b := 22) (L := [.ref 0, .int x1, .int x2, .int x3, .int x4, .int x5, .int x6, .null]) (st := []) (w := w2) rfl h6).trans <|
    (runs_stps (q' := (23, [.ref 0, .int x1, .int x2, .int x3, .int x4, .int x5, .int x6, .null], [.ref 0], w2)) 1 rfl).trans <|
    (runs_getD (pc := 26) (L := [.ref 0, .int x1, .int x2, .int x3, .int x4, .int x5, .int x6, .null]) (st := []) (w := w2) rfl h7 (by decide)).trans <|
    (runs_stps (q' := (27, [.ref 0, .int x1, .int x2, .int x3, .int x4, .int x5, .int x6, .null], [.int x3, .ref 20], w2)) 1 rfl).trans <|
    (runs_callV (rv := some (.int r3)) (w' := w3) rfl rfl rfl rfl h8).trans <|
    (runs_if_f (a := 38) (b := 33) (L := [.ref 0, .int x1, .int x2, .int x3, .int x4, .int x5, .int x6, .null]) (st := []) (w := w3) rfl h9).trans <|
    (runs_stps (q' := (35, [.ref 0, .int x1, .int x2, .int x3, .int x4, .int x5, .int x6, .null], [.int x3, .int x2], w3)) 2 rfl).trans <|
    (runs_if_f (a := 38) (b := 40) (L := [.ref 0, .int x1, .int x2, .int x3, .int x4, .int x5, .int x6, .null]) (st := []) (w := w3) rfl h10).trans <|
    (runs_stps (q' := (42, [.ref 0, .int x1, .int x2, .int x3, .int x4, .int x5, .int x6, .null], [.int x4], w3)) 1 rfl).trans <|
    (runs_if_f (a := 71) (b := 45) (L := [.ref 0, .int x1, .int x2, .int x3, .int x4, .int x5, .int x6, .null]) (st := []) (w := w3) rfl h11).trans <|
    (runs_stps (q' := (48, [.ref 0, .int x1, .int x2, .int x3, .int x4, .int x5, .int x6, .null], [.int 4, .int x4], w3)) 2 rfl).trans <|
    (runs_if_f (a := 71) (b := 51) (L := [.ref 0, .int x1, .int x2, .int x3, .int x4, .int x5, .int x6, .null]) (st := []) (w := w3) rfl h12).trans <|
    (runs_stps (q' := (53, [.ref 0, .int x1, .int x2, .int x3, .int x4, .int x5, .int x6, .null], [.int x5], w3)) 1 rfl).trans <|
    (runs_if_f (a := 71) (b := 56) (L := [.ref 0, .int x1, .int x2, .int x3, .int x4, .int x5, .int x6, .null]) (st := []) (w := w3) rfl h13).trans <|
    (runs_stps (q' := (60, [.ref 0, .int x1, .int x2, .int x3, .int x4, .int x5, .int x6, .null], [.int 10, .int x5], w3)) 2 rfl).trans <|
    (runs_if_f (a := 71) (b := 63) (L := [.ref 0, .int x1, .int x2, .int x3, .int x4, .int x5, .int x6, .null]) (st := []) (w := w3) rfl h14).trans <|
    (runs_stps (q' := (65, [.ref 0, .int x1, .int x2, .int x3, .int x4, .int x5, .int x6, .null], [.int x6], w3)) 1 rfl).trans <|
    (runs_callS (rv := some (.int r4)) (w' := w4) rfl rfl rfl h15).trans <|
    (runs_if_t (a := 71) (b := 73) (L := [.ref 0, .int x1, .int x2, .int x3, .int x4, .int x5, .int x6, .null]) (st := []) (w := w4) rfl h16).trans <|
    (runs_stps (q' := (72, [.null, .null, .null, .null, .null, .null, .null, .null], [.int (-1)], w4)) 1 rfl).trans <|
    runs_ret rfl
  · exact (runs_stps (q' := (1, [.ref 0, .int x1, .int x2, .int x3, .int x4, .int x5, .int x6, .null], [.ref 0], w)) 1 rfl).trans <|
    (runs_getD (pc := 4) (L := [.ref 0, .int x1, .int x2, .int x3, .int x4, .int x5, .int x6, .null]) (st := []) (w := w) rfl h1 (by decide)).trans <|
    (runs_stps (q' := (5, [.ref 0, .int x1, .int x2, .int x3, .int x4, .int x5, .int x6, .null], [.int x1, .ref 27], w)) 1 rfl).trans <|
    (runs_callV (rv := some (.int r1)) (w' := w1) rfl rfl rfl rfl h2).trans <|
    (runs_if_f (a := 38) (b := 11) (L := [.ref 0, .int x1, .int x2, .int x3, .int x4, .int x5, .int x6, .null]) (st := []) (w := w1) rfl h3).trans <|
    (runs_stps (q' := (12, [.ref 0, .int x1, .int x2, .int x3, .int x4, .int x5, .int x6, .null], [.ref 0], w1)) 1 rfl).trans <|
    (runs_getD (pc := 15) (L := [.ref 0, .int x1, .int x2, .int x3, .int x4, .int x5, .int x6, .null]) (st := []) (w := w1) rfl h4 (by decide)).trans <|
    (runs_stps (q' := (16, [.ref 0, .int x1, .int x2, .int x3, .int x4, .int x5, .int x6, .null], [.int x2, .ref 27], w1)) 1 rfl).trans <|
    (runs_callV (rv := some (.int r2)) (w' := w2) rfl rfl rfl rfl h5).trans <|
    (runs_if_f (a := 38) (b := 22) (L := [.ref 0, .int x1, .int x2, .int x3, .int x4, .int x5, .int x6, .null]) (st := []) (w := w2) rfl h6).trans <|
    (runs_stps (q' := (23, [.ref 0, .int x1, .int x2, .int x3, .int x4, .int x5, .int x6, .null], [.ref 0], w2)) 1 rfl).trans <|
    (runs_getD (pc := 26) (L := [.ref 0, .int x1, .int x2, .int x3, .int x4, .int x5, .int x6, .null]) (st := []) (w := w2) rfl h7 (by decide)).trans <|
    (runs_stps (q' := (27, [.ref 0, .int x1, .int x2, .int x3, .int x4, .int x5, .int x6, .null], [.int x3, .ref 27], w2)) 1 rfl).trans <|
    (runs_callV (rv := some (.int r3)) (w' := w3) rfl rfl rfl rfl h8).trans <|
    (runs_if_f (a := 38) (b := 33) (L := [.ref 0, .int x1, .int x2, .int x3, .int x4, .int x5, .int x6, .null]) (st := []) (w := w3) rfl h9).trans <|
    (runs_stps (q' := (35, [.ref 0, .int x1, .int x2, .int x3, .int x4, .int x5, .int x6, .null], [.int x3, .int x2], w3)) 2 rfl).trans <|
    (runs_if_f (a := 38) (b := 40) (L := [.ref 0, .int x1, .int x2, .int x3, .int x4, .int x5, .int x6, .null]) (st := []) (w := w3) rfl h10).trans <|
    (runs_stps (q' := (42, [.ref 0, .int x1, .int x2, .int x3, .int x4, .int x5, .int x6, .null], [.int x4], w3)) 1 rfl).trans <|
    (runs_if_f (a := 71) (b := 45) (L := [.ref 0, .int x1, .int x2, .int x3, .int x4, .int x5, .int x6, .null]) (st := []) (w := w3) rfl h11).trans <|
    (runs_stps (q' := (48, [.ref 0, .int x1, .int x2, .int x3, .int x4, .int x5, .int x6, .null], [.int 4, .int x4], w3)) 2 rfl).trans <|
    (runs_if_f (a := 71) (b := 51) (L := [.ref 0, .int x1, .int x2, .int x3, .int x4, .int x5, .int x6, .null]) (st := []) (w := w3) rfl h12).trans <|
    (runs_stps (q' := (53, [.ref 0, .int x1, .int x2, .int x3, .int x4, .int x5, .int x6, .null], [.int x5], w3)) 1 rfl).trans <|
    (runs_if_f (a := 71) (b := 56) (L := [.ref 0, .int x1, .int x2, .int x3, .int x4, .int x5, .int x6, .null]) (st := []) (w := w3) rfl h13).trans <|
    (runs_stps (q' := (60, [.ref 0, .int x1, .int x2, .int x3, .int x4, .int x5, .int x6, .null], [.int 10, .int x5], w3)) 2 rfl).trans <|
    (runs_if_f (a := 71) (b := 63) (L := [.ref 0, .int x1, .int x2, .int x3, .int x4, .int x5, .int x6, .null]) (st := []) (w := w3) rfl h14).trans <|
    (runs_stps (q' := (65, [.ref 0, .int x1, .int x2, .int x3, .int x4, .int x5, .int x6, .null], [.int x6], w3)) 1 rfl).trans <|
    (runs_callS (rv := some (.int r4)) (w' := w4) rfl rfl rfl h15).trans <|
    (runs_if_t (a := 71) (b := 73) (L := [.ref 0, .int x1, .int x2, .int x3, .int x4, .int x5, .int x6, .null]) (st := []) (w := w4) rfl h16).trans <|
    (runs_stps (q' := (72, [.null, .null, .null, .null, .null, .null, .null, .null], [.int (-1)], w4)) 1 rfl).trans <|
    runs_ret rfl
theorem p_X8_broom_0FFFF_R {ex : Ex} {p : Nat} {x1 : Int32} {x2 : Int32} {x3 : Int32} {x4 : Int32} {x5 : Int32} {x6 : Int32} {r1 : Int32} {w1 : Wd} {r2 : Int32} {w2 : Wd} {r3 : Int32} {w3 : Wd} {w : Wd} (hp : scp p) (h1 : w.1 0 5 = nI p) (h2 : ex 60 [.ref p, .int x1] w = some (some (.int r1), w1)) (h3 : ¬ r1 = 0) (h4 : w1.1 0 5 = nI p) (h5 : ex 61 [.ref p, .int x2] w1 = some (some (.int r2), w2)) (h6 : ¬ r2 = 0) (h7 : w2.1 0 5 = nI p) (h8 : ex 61 [.ref p, .int x3] w2 = some (some (.int r3), w3)) (h9 : ¬ r3 = 0) (h10 : x2 = x3) : runs (T_X8_broom ex) (0, [.ref 0, .int x1, .int x2, .int x3, .int x4, .int x5, .int x6, .null], [], w) = some (some (.int (-1)), w3) := by
  rcases hp with rfl | rfl
  · exact (runs_stps (q' := (1, [.ref 0, .int x1, .int x2, .int x3, .int x4, .int x5, .int x6, .null], [.ref 0], w)) 1 rfl).trans <|
    (runs_getD (pc := 4) (L := [.ref 0, .int x1, .int x2, .int x3, .int x4, .int x5, .int x6, .null]) (st := []) (w := w) rfl h1 (by decide)).trans <|
    (runs_stps (q' := (5, [.ref 0, .int x1, .int x2, .int x3, .int x4, .int x5, .int x6, .null], [.int x1, .ref 20], w)) 1 rfl).trans <|
    (runs_callV (rv := some (.int r1)) (w' := w1) rfl rfl rfl rfl h2).trans <|
    (runs_if_f (a := 38) (b := 11) (L := [.ref 0, .int x1, .int x2, .int x3, .int x4, .int x5, .int x6, .null]) (st := []) (w := w1) rfl h3).trans <|
    (runs_stps (q' := (12, [.ref 0, .int x1, .int x2, .int x3, .int x4, .int x5, .int x6, .null], [.ref 0], w1)) 1 rfl).trans <|
    (runs_getD (pc := 15) (L := [.ref 0, .int x1, .int x2, .int x3, .int x4, .int x5, .int x6, .null]) (st := []) (w := w1) rfl h4 (by decide)).trans <|
    (runs_stps (q' := (16, [.ref 0, .int x1, .int x2, .int x3, .int x4, .int x5, .int x6, .null], [.int x2, .ref 20], w1)) 1 rfl).trans <|
    (runs_callV (rv := some (.int r2)) (w' := w2) rfl rfl rfl rfl h5).trans <|
    (runs_if_f (a := 38) (b := 22) (L := [.ref 0, .int x1, .int x2, .int x3, .int x4, .int x5, .int x6, .null]) (st := []) (w := w2) rfl h6).trans <|
    (runs_stps (q' := (23, [.ref 0, .int x1, .int x2, .int x3, .int x4, .int x5, .int x6, .null], [.ref 0], w2)) 1 rfl).trans <|
    (runs_getD (pc := 26) (L := [.ref 0, .int x1, .int x2, .int x3, .int x4, .int x5, .int x6, .null]) (st := []) (w := w2) rfl h7 (by decide)).trans <|
    (runs_stps (q' := (27, [.ref 0, .int x1, .int x2, .int x3, .int x4, .int x5, .int x6, .null], [.int x3, .ref 20], w2)) 1 rfl).trans <|
    (runs_callV (rv := some (.int r3)) (w' := w3) rfl rfl rfl rfl h8).trans <|
    (runs_if_f (a := 38) (b := 33) (L := [.ref 0, .int x1, .int x2, .int x3, .int x4, .int x5, .int x6, .null]) (st := []) (w := w3) rfl h9).trans <|
    (runs_stps (q' := (35, [.ref 0, .int x1, .int x2, .int x3, .int x4, .int x5, .int x6, .null], [.int x3, .int x2], w3)) 2 rfl).trans <|
    (runs_if_t (a := 38) (b := 40) (L := [.ref 0, .int x1, .int x2, .int x3, .int x4, .int x5, .int x6, .null]) (st := []) (w := w3) rfl h10).trans <|
    (runs_stps (q' := (39, [.null, .null, .null, .null, .null, .null, .null, .null], [.int (-1)], w3)) 1 rfl).trans <|
    runs_ret rfl
  · exact (runs_stps (q' := (1, [.ref 0, .int x1, .int x2, .int x3, .int x4, .int x5, .int x6, .null], [.ref 0], w)) 1 rfl).trans <|
    (runs_getD (pc := 4) (L := [.ref 0, .int x1, .int x2, .int x3, .int x4, .int x5, .int x6, .null]) (st := []) (w := w) rfl h1 (by decide)).trans <|
    (runs_stps (q' := (5, [.ref 0, .int x1, .int x2, .int x3, .int x4, .int x5, .int x6, .null], [.int x1, .ref 27], w)) 1 rfl).trans <|
    (runs_callV (rv := some (.int r1)) (w' := w1) rfl rfl rfl rfl h2).trans <|
    (runs_if_f (a := 38) (b := 11) (L := [.ref 0, .int x1, .int x2, .int x3, .int x4, .int x5, .int x6, .null]) (st := []) (w := w1) rfl h3).trans <|
    (runs_stps (q' := (12, [.ref 0, .int x1, .int x2, .int x3, .int x4, .int x5, .int x6, .null], [.ref 0], w1)) 1 rfl).trans <|
    (runs_getD (pc := 15) (L := [.ref 0, .int x1, .int x2, .int x3, .int x4, .int x5, .int x6, .null]) (st := []) (w := w1) rfl h4 (by decide)).trans <|
    (runs_stps (q' := (16, [.ref 0, .int x1, .int x2, .int x3, .int x4, .int x5, .int x6, .null], [.int x2, .ref 27], w1)) 1 rfl).trans <|
    (runs_callV (rv := some (.int r2)) (w' := w2) rfl rfl rfl rfl h5).trans <|
    (runs_if_f (a := 38) (b := 22) (L := [.ref 0, .int x1, .int x2, .int x3, .int x4, .int x5, .int x6, .null]) (st := []) (w := w2) rfl h6).trans <|
    (runs_stps (q' := (23, [.ref 0, .int x1, .int x2, .int x3, .int x4, .int x5, .int x6, .null], [.ref 0], w2)) 1 rfl).trans <|
    (runs_getD (pc := 26) (L := [.ref 0, .int x1, .int x2, .int x3, .int x4, .int x5, .int x6, .null]) (st := []) (w := w2) rfl h7 (by decide)).trans <|
    (runs_stps (q' := (27, [.ref 0, .int x1, .int x2, .int x3, .int x4, .int x5, .int x6, .null], [.int x3, .ref 27], w2)) 1 rfl).trans <|
    (runs_callV (rv := some (.int r3)) (w' := w3) rfl rfl rfl rfl h8).trans <|
    (runs_if_f (a := 38) (b := 33) (L := [.ref 0, .int x1, .int x2, .int x3, .int x4, .int x5, .int x6, .null]) (st := []) (w := w3) rfl h9).trans <|
    (runs_stps (q' := (35, [.ref 0, .int x1, .int x2, .int x3, .int x4, .int x5, .int x6, .null], [.int x3, .int x2], w3)) 2 rfl).trans <|
    (runs_if_t (a := 38) (b := 40) (L := [.ref 0, .int x1, .int x2, .int x3, .int x4, .int x5, .int x6, .null]) (st := []) (w := w3) rfl h10).trans <|
    (runs_stps (q' := (39, [.null, .null, .null, .null, .null, .null, .null, .null], [.int (-1)], w3)) 1 rfl).trans <|
    runs_ret rfl
theorem p_X8_odds_0T_R {ex : Ex} {x1 : Int32} {x2 : Int32} {x3 : Int32} {w : Wd} (h1 : x1 < 0) : runs (T_X8_odds ex) (0, [.ref 0, .int x1, .int x2, .int x3, .null, .null, .null], [], w) = some (some (.long (-1)), w) := 
    (runs_stps (q' := (1, [.ref 0, .int x1, .int x2, .int x3, .null, .null, .null], [.int x1], w)) 1 rfl).trans <|
    (runs_if_t (a := 27) (b := 4) (L := [.ref 0, .int x1, .int x2, .int x3, .null, .null, .null]) (st := []) (w := w) rfl h1).trans <|
    (runs_stps (q' := (30, [.null, .null, .null, .null, .null, .null, .null], [.long (-1)], w)) 1 rfl).trans <|
    runs_ret rfl
theorem p_X8_odds_0FT_R {ex : Ex} {x1 : Int32} {x2 : Int32} {x3 : Int32} {w : Wd} (h1 : ¬ x1 < 0) (h2 : 9 < x1) : runs (T_X8_odds ex) (0, [.ref 0, .int x1, .int x2, .int x3, .null, .null, .null], [], w) = some (some (.long (-1)), w) := 
    (runs_stps (q' := (1, [.ref 0, .int x1, .int x2, .int x3, .null, .null, .null], [.int x1], w)) 1 rfl).trans <|
    (runs_if_f (a := 27) (b := 4) (L := [.ref 0, .int x1, .int x2, .int x3, .null, .null, .null]) (st := []) (w := w) rfl h1).trans <|
    (runs_stps (q' := (7, [.ref 0, .int x1, .int x2, .int x3, .null, .null, .null], [.int 9, .int x1], w)) 2 rfl).trans <|
    (runs_if_t (a := 27) (b := 10) (L := [.ref 0, .int x1, .int x2, .int x3, .null, .null, .null]) (st := []) (w := w) rfl h2).trans <|
    (runs_stps (q' := (30, [.null, .null, .null, .null, .null, .null, .null], [.long (-1)], w)) 1 rfl).trans <|
    runs_ret rfl
theorem p_X8_odds_0FFT_R {ex : Ex} {x1 : Int32} {x2 : Int32} {x3 : Int32} {w : Wd} (h1 : ¬ x1 < 0) (h2 : ¬ 9 < x1) (h3 : x2 < 0) : runs (T_X8_odds ex) (0, [.ref 0, .int x1, .int x2, .int x3, .null, .null, .null], [], w) = some (some (.long (-1)), w) := 
    (runs_stps (q' := (1, [.ref 0, .int x1, .int x2, .int x3, .null, .null, .null], [.int x1], w)) 1 rfl).trans <|
    (runs_if_f (a := 27) (b := 4) (L := [.ref 0, .int x1, .int x2, .int x3, .null, .null, .null]) (st := []) (w := w) rfl h1).trans <|
    (runs_stps (q' := (7, [.ref 0, .int x1, .int x2, .int x3, .null, .null, .null], [.int 9, .int x1], w)) 2 rfl).trans <|
    (runs_if_f (a := 27) (b := 10) (L := [.ref 0, .int x1, .int x2, .int x3, .null, .null, .null]) (st := []) (w := w) rfl h2).trans <|
    (runs_stps (q' := (11, [.ref 0, .int x1, .int x2, .int x3, .null, .null, .null], [.int x2], w)) 1 rfl).trans <|
    (runs_if_t (a := 27) (b := 14) (L := [.ref 0, .int x1, .int x2, .int x3, .null, .null, .null]) (st := []) (w := w) rfl h3).trans <|
    (runs_stps (q' := (30, [.null, .null, .null, .null, .null, .null, .null], [.long (-1)], w)) 1 rfl).trans <|
    runs_ret rfl
theorem p_X8_odds_0FFFT_R {ex : Ex} {x1 : Int32} {x2 : Int32} {x3 : Int32} {w : Wd} (h1 : ¬ x1 < 0) (h2 : ¬ 9 < x1) (h3 : ¬ x2 < 0) (h4 : 10 < x2) : runs (T_X8_odds ex) (0, [.ref 0, .int x1, .int x2, .int x3, .null, .null, .null], [], w) = some (some (.long (-1)), w) := 
    (runs_stps (q' := (1, [.ref 0, .int x1, .int x2, .int x3, .null, .null, .null], [.int x1], w)) 1 rfl).trans <|
    (runs_if_f (a := 27) (b := 4) (L := [.ref 0, .int x1, .int x2, .int x3, .null, .null, .null]) (st := []) (w := w) rfl h1).trans <|
    (runs_stps (q' := (7, [.ref 0, .int x1, .int x2, .int x3, .null, .null, .null], [.int 9, .int x1], w)) 2 rfl).trans <|
    (runs_if_f (a := 27) (b := 10) (L := [.ref 0, .int x1, .int x2, .int x3, .null, .null, .null]) (st := []) (w := w) rfl h2).trans <|
    (runs_stps (q' := (11, [.ref 0, .int x1, .int x2, .int x3, .null, .null, .null], [.int x2], w)) 1 rfl).trans <|
    (runs_if_f (a := 27) (b := 14) (L := [.ref 0, .int x1, .int x2, .int x3, .null, .null, .null]) (st := []) (w := w) rfl h3).trans <|
    (runs_stps (q' := (17, [.ref 0, .int x1, .int x2, .int x3, .null, .null, .null], [.int 10, .int x2], w)) 2 rfl).trans <|
    (runs_if_t (a := 27) (b := 20) (L := [.ref 0, .int x1, .int x2, .int x3, .null, .null, .null]) (st := []) (w := w) rfl h4).trans <|
    (runs_stps (q' := (30, [.null, .null, .null, .null, .null, .null, .null], [.long (-1)], w)) 1 rfl).trans <|
    runs_ret rfl
theorem p_X8_odds_0FFFFT_L45 {ex : Ex} {x1 : Int32} {x2 : Int32} {x3 : Int32} {r1 : Int32} {w1 : Wd} {w : Wd} (h1 : ¬ x1 < 0) (h2 : ¬ 9 < x1) (h3 : ¬ x2 < 0) (h4 : ¬ 10 < x2) (h5 : ex 131 [.int x3] w = some (some (.int r1), w1)) (h6 : ¬ r1 = 0) : runs (T_X8_odds ex) (0, [.ref 0, .int x1, .int x2, .int x3, .null, .null, .null], [], w) = runs (T_X8_odds ex) (45, [.null, .int x1, .int x2, .int x3, .int (10 - x2), .int 10, .int 10], [], w1) := 
    (runs_stps (q' := (1, [.ref 0, .int x1, .int x2, .int x3, .null, .null, .null], [.int x1], w)) 1 rfl).trans <|
    (runs_if_f (a := 27) (b := 4) (L := [.ref 0, .int x1, .int x2, .int x3, .null, .null, .null]) (st := []) (w := w) rfl h1).trans <|
    (runs_stps (q' := (7, [.ref 0, .int x1, .int x2, .int x3, .null, .null, .null], [.int 9, .int x1], w)) 2 rfl).trans <|
    (runs_if_f (a := 27) (b := 10) (L := [.ref 0, .int x1, .int x2, .int x3, .null, .null, .null]) (st := []) (w := w) rfl h2).trans <|
    (runs_stps (q' := (11, [.ref 0, .int x1, .int x2, .int x3, .null, .null, .null], [.int x2], w)) 1 rfl).trans <|
    (runs_if_f (a := 27) (b := 14) (L := [.ref 0, .int x1, .int x2, .int x3, .null, .null, .null]) (st := []) (w := w) rfl h3).trans <|
    (runs_stps (q' := (17, [.ref 0, .int x1, .int x2, .int x3, .null, .null, .null], [.int 10, .int x2], w)) 2 rfl).trans <|
    (runs_if_f (a := 27) (b := 20) (L := [.ref 0, .int x1, .int x2, .int x3, .null, .null, .null]) (st := []) (w := w) rfl h4).trans <|
    (runs_stps (q' := (21, [.ref 0, .int x1, .int x2, .int x3, .null, .null, .null], [.int x3], w)) 1 rfl).trans <|
    (runs_callS (rv := some (.int r1)) (w' := w1) rfl rfl rfl h5).trans <|
    (runs_if_f (a := 27) (b := 31) (L := [.ref 0, .int x1, .int x2, .int x3, .null, .null, .null]) (st := []) (w := w1) rfl h6).trans <|
    (runs_stps (q' := (45, [.null, .int x1, .int x2, .int x3, .int (10 - x2), .int 10, .int 10], [], w1)) 8 rfl).trans <|
    rfl
theorem p_X8_odds_0FFFFF_R {ex : Ex} {x1 : Int32} {x2 : Int32} {x3 : Int32} {r1 : Int32} {w1 : Wd} {w : Wd} (h1 : ¬ x1 < 0) (h2 : ¬ 9 < x1) (h3 : ¬ x2 < 0) (h4 : ¬ 10 < x2) (h5 : ex 131 [.int x3] w = some (some (.int r1), w1)) (h6 : r1 = 0) : runs (T_X8_odds ex) (0, [.ref 0, .int x1, .int x2, .int x3, .null, .null, .null], [], w) = some (some (.long (-1)), w1) := 
    (runs_stps (q' := (1, [.ref 0, .int x1, .int x2, .int x3, .null, .null, .null], [.int x1], w)) 1 rfl).trans <|
    (runs_if_f (a := 27) (b := 4) (L := [.ref 0, .int x1, .int x2, .int x3, .null, .null, .null]) (st := []) (w := w) rfl h1).trans <|
    (runs_stps (q' := (7, [.ref 0, .int x1, .int x2, .int x3, .null, .null, .null], [.int 9, .int x1], w)) 2 rfl).trans <|
    (runs_if_f (a := 27) (b := 10) (L := [.ref 0, .int x1, .int x2, .int x3, .null, .null, .null]) (st := []) (w := w) rfl h2).trans <|
    (runs_stps (q' := (11, [.ref 0, .int x1, .int x2, .int x3, .null, .null, .null], [.int x2], w)) 1 rfl).trans <|
    (runs_if_f (a := 27) (b := 14) (L := [.ref 0, .int x1, .int x2, .int x3, .null, .null, .null]) (st := []) (w := w) rfl h3).trans <|
    (runs_stps (q' := (17, [.ref 0, .int x1, .int x2, .int x3, .null, .null, .null], [.int 10, .int x2], w)) 2 rfl).trans <|
    (runs_if_f (a := 27) (b := 20) (L := [.ref 0, .int x1, .int x2, .int x3, .null, .null, .null]) (st := []) (w := w) rfl h4).trans <|
    (runs_stps (q' := (21, [.ref 0, .int x1, .int x2, .int x3, .null, .null, .null], [.int x3], w)) 1 rfl).trans <|
    (runs_callS (rv := some (.int r1)) (w' := w1) rfl rfl rfl h5).trans <|
    (runs_if_t (a := 27) (b := 31) (L := [.ref 0, .int x1, .int x2, .int x3, .null, .null, .null]) (st := []) (w := w1) rfl h6).trans <|
    (runs_stps (q' := (30, [.null, .null, .null, .null, .null, .null, .null], [.long (-1)], w1)) 1 rfl).trans <|
    runs_ret rfl
theorem p_X8_odds_45TT_R {ex : Ex} {v0 : Value} {x1 : Int32} {v2 : Value} {x3 : Int32} {x4 : Int32} {x5 : Int32} {x6 : Int32} {r1 : Int64} {w1 : Wd} {w : Wd} (h1 : x6 ≤ 1) (h2 : ¬ x3 = 0) (h3 : ex 132 [.int x5, .int x1] w = some (some (.long r1), w1)) : runs (T_X8_odds ex) (45, [v0, .int x1, v2, .int x3, .int x4, .int x5, .int x6], [], w) = some (some (.long r1), w1) := 
    (runs_stps (q' := (48, [.null, .int x1, .null, .int x3, .int x4, .int x5, .int x6], [.int 1, .int x6], w)) 2 rfl).trans <|
    (runs_if_t (a := 87) (b := 51) (L := [.null, .int x1, .null, .int x3, .int x4, .int x5, .int x6]) (st := []) (w := w) rfl h1).trans <|
    (runs_stps (q' := (88, [.null, .int x1, .null, .int x3, .int x4, .int x5, .null], [.int x3], w)) 1 rfl).trans <|
    (runs_if_f (a := 91) (b := 96) (L := [.null, .int x1, .null, .int x3, .int x4, .int x5, .null]) (st := []) (w := w) rfl h2).trans <|
    (runs_stps (q' := (99, [.null, .int x1, .null, .null, .null, .null, .null], [.int x1, .int x5], w)) 2 rfl).trans <|
    (runs_callS (rv := some (.long r1)) (w' := w1) rfl rfl rfl h3).trans <|
    runs_ret rfl
theorem p_X8_odds_45TF_R {ex : Ex} {v0 : Value} {x1 : Int32} {v2 : Value} {x3 : Int32} {x4 : Int32} {x5 : Int32} {x6 : Int32} {r1 : Int64} {w1 : Wd} {w : Wd} (h1 : x6 ≤ 1) (h2 : x3 = 0) (h3 : ex 132 [.int x4, .int x1] w = some (some (.long r1), w1)) : runs (T_X8_odds ex) (45, [v0, .int x1, v2, .int x3, .int x4, .int x5, .int x6], [], w) = some (some (.long r1), w1) := 
    (runs_stps (q' := (48, [.null, .int x1, .null, .int x3, .int x4, .int x5, .int x6], [.int 1, .int x6], w)) 2 rfl).trans <|
    (runs_if_t (a := 87) (b := 51) (L := [.null, .int x1, .null, .int x3, .int x4, .int x5, .int x6]) (st := []) (w := w) rfl h1).trans <|
    (runs_stps (q' := (88, [.null, .int x1, .null, .int x3, .int x4, .int x5, .null], [.int x3], w)) 1 rfl).trans <|
    (runs_if_t (a := 91) (b := 96) (L := [.null, .int x1, .null, .int x3, .int x4, .int x5, .null]) (st := []) (w := w) rfl h2).trans <|
    (runs_stps (q' := (99, [.null, .int x1, .null, .null, .null, .null, .null], [.int x1, .int x4], w)) 3 rfl).trans <|
    (runs_callS (rv := some (.long r1)) (w' := w1) rfl rfl rfl h3).trans <|
    runs_ret rfl
theorem p_X8_odds_45FT_L45 {ex : Ex} {v0 : Value} {x1 : Int32} {v2 : Value} {x3 : Int32} {x4 : Int32} {x5 : Int32} {x6 : Int32} {w : Wd} (h1 : ¬ x6 ≤ 1) (h2 : ¬ x6 = 0) (h3 : ¬ (x4 - x4 / x6 * x6) = 0) : runs (T_X8_odds ex) (45, [v0, .int x1, v2, .int x3, .int x4, .int x5, .int x6], [], w) = runs (T_X8_odds ex) (45, [.null, .int x1, .null, .int x3, .int x4, .int x5, .int (x6 + (-1))], [], w) := 
    (runs_stps (q' := (48, [.null, .int x1, .null, .int x3, .int x4, .int x5, .int x6], [.int 1, .int x6], w)) 2 rfl).trans <|
    (runs_if_f (a := 87) (b := 51) (L := [.null, .int x1, .null, .int x3, .int x4, .int x5, .int x6]) (st := []) (w := w) rfl h1).trans <|
    (runs_stps (q' := (55, [.null, .int x1, .null, .int x3, .int x4, .int x5, .int x6], [.int x6, .int x4], w)) 2 rfl).trans <|
    (runs_dv rfl h2).trans <|
    (runs_if_f (a := 59) (b := 81) (L := [.null, .int x1, .null, .int x3, .int x4, .int x5, .int x6]) (st := []) (w := w) rfl h3).trans <|
    (runs_stps (q' := (45, [.null, .int x1, .null, .int x3, .int x4, .int x5, .int (x6 + (-1))], [], w)) 2 rfl).trans <|
    rfl
theorem p_X8_odds_45FFT_L45 {ex : Ex} {v0 : Value} {x1 : Int32} {v2 : Value} {x3 : Int32} {x4 : Int32} {x5 : Int32} {x6 : Int32} {w : Wd} (h1 : ¬ x6 ≤ 1) (h2 : ¬ x6 = 0) (h3 : (x4 - x4 / x6 * x6) = 0) (h4 : ¬ x6 = 0) (h5 : ¬ (x5 - x5 / x6 * x6) = 0) : runs (T_X8_odds ex) (45, [v0, .int x1, v2, .int x3, .int x4, .int x5, .int x6], [], w) = runs (T_X8_odds ex) (45, [.null, .int x1, .null, .int x3, .int x4, .int x5, .int (x6 + (-1))], [], w) := 
    (runs_stps (q' := (48, [.null, .int x1, .null, .int x3, .int x4, .int x5, .int x6], [.int 1, .int x6], w)) 2 rfl).trans <|
    (runs_if_f (a := 87) (b := 51) (L := [.null, .int x1, .null, .int x3, .int x4, .int x5, .int x6]) (st := []) (w := w) rfl h1).trans <|
    (runs_stps (q' := (55, [.null, .int x1, .null, .int x3, .int x4, .int x5, .int x6], [.int x6, .int x4], w)) 2 rfl).trans <|
    (runs_dv rfl h2).trans <|
    (runs_if_t (a := 59) (b := 81) (L := [.null, .int x1, .null, .int x3, .int x4, .int x5, .int x6]) (st := []) (w := w) rfl h3).trans <|
    (runs_stps (q' := (63, [.null, .int x1, .null, .int x3, .int x4, .int x5, .int x6], [.int x6, .int x5], w)) 2 rfl).trans <|
    (runs_dv rfl h4).trans <|
    (runs_if_f (a := 67) (b := 81) (L := [.null, .int x1, .null, .int x3, .int x4, .int x5, .int x6]) (st := []) (w := w) rfl h5).trans <|
    (runs_stps (q' := (45, [.null, .int x1, .null, .int x3, .int x4, .int x5, .int (x6 + (-1))], [], w)) 2 rfl).trans <|
    rfl
theorem p_X8_odds_45FFF_L45 {ex : Ex} {v0 : Value} {x1 : Int32} {v2 : Value} {x3 : Int32} {x4 : Int32} {x5 : Int32} {x6 : Int32} {w : Wd} (h1 : ¬ x6 ≤ 1) (h2 : ¬ x6 = 0) (h3 : (x4 - x4 / x6 * x6) = 0) (h4 : ¬ x6 = 0) (h5 : (x5 - x5 / x6 * x6) = 0) (h6 : ¬ x6 = 0) (h7 : ¬ x6 = 0) : runs (T_X8_odds ex) (45, [v0, .int x1, v2, .int x3, .int x4, .int x5, .int x6], [], w) = runs (T_X8_odds ex) (45, [.null, .int x1, .null, .int x3, .int (x4 / x6), .int (x5 / x6), .int (x6 + (-1))], [], w) := 
    (runs_stps (q' := (48, [.null, .int x1, .null, .int x3, .int x4, .int x5, .int x6], [.int 1, .int x6], w)) 2 rfl).trans <|
    (runs_if_f (a := 87) (b := 51) (L := [.null, .int x1, .null, .int x3, .int x4, .int x5, .int x6]) (st := []) (w := w) rfl h1).trans <|
    (runs_stps (q' := (55, [.null, .int x1, .null, .int x3, .int x4, .int x5, .int x6], [.int x6, .int x4], w)) 2 rfl).trans <|
    (runs_dv rfl h2).trans <|
    (runs_if_t (a := 59) (b := 81) (L := [.null, .int x1, .null, .int x3, .int x4, .int x5, .int x6]) (st := []) (w := w) rfl h3).trans <|
    (runs_stps (q' := (63, [.null, .int x1, .null, .int x3, .int x4, .int x5, .int x6], [.int x6, .int x5], w)) 2 rfl).trans <|
    (runs_dv rfl h4).trans <|
    (runs_if_t (a := 67) (b := 81) (L := [.null, .int x1, .null, .int x3, .int x4, .int x5, .int x6]) (st := []) (w := w) rfl h5).trans <|
    (runs_stps (q' := (71, [.null, .int x1, .null, .int x3, .int x4, .int x5, .int x6], [.int x6, .int x4], w)) 2 rfl).trans <|
    (runs_dv rfl h6).trans <|
    (runs_stps (q' := (78, [.null, .int x1, .null, .int x3, .int (x4 / x6), .int x5, .int x6], [.int x6, .int x5], w)) 3 rfl).trans <|
    (runs_dv rfl h7).trans <|
    (runs_stps (q' := (45, [.null, .int x1, .null, .int x3, .int (x4 / x6), .int (x5 / x6), .int (x6 + (-1))], [], w)) 3 rfl).trans <|
    rfl
theorem p_X8_rate_0T_R {ex : Ex} {p : Nat} {x1 : Int32} {x2 : Int32} {w : Wd} (hp : scp p) (h1 : x1 < 0) : runs (T_X8_rate ex) (0, [.ref 0, .int x1, .int x2], [], w) = some (some (.int (-1000000)), w) := by
  rcases hp with rfl | rfl
  · exact (runs_stps (q' := (1, [.ref 0, .int x1, .int x2], [.int x1], w)) 1 rfl).trans <|
    (runs_if_t (a := 21) (b := 4) (L := [.ref 0, .int x1, .int x2]) (st := []) (w := w) rfl h1).trans <|
    (runs_stps (q' := (23, [.null, .null, .null], [.int (-1000000)], w)) 1 rfl).trans <|
    runs_ret rfl
  · exact (runs_stps (q' := (1, [.ref 0, .int x1, .int x2], [.int x1], w)) 1 rfl).trans <|
    (runs_if_t (a := 21) (b := 4) (L := [.ref 0, .int x1, .int x2]) (st := []) (w := w) rfl h1).trans <|
    (runs_stps (q' := (23, [.null, .null, .null], [.int (-1000000)], w)) 1 rfl).trans <|
    runs_ret rfl
theorem p_X8_rate_0FT_R {ex : Ex} {p : Nat} {x1 : Int32} {x2 : Int32} {w : Wd} (hp : scp p) (h1 : ¬ x1 < 0) (h2 : 6 ≤ x1) : runs (T_X8_rate ex) (0, [.ref 0, .int x1, .int x2], [], w) = some (some (.int (-1000000)), w) := by
  rcases hp with rfl | rfl
  · exact (runs_stps (q' := (1, [.ref 0, .int x1, .int x2], [.int x1], w)) 1 rfl).trans <|
    (runs_if_f (a := 21) (b := 4) (L := [.ref 0, .int x1, .int x2]) (st := []) (w := w) rfl h1).trans <|
    (runs_stps (q' := (7, [.ref 0, .int x1, .int x2], [.int 6, .int x1], w)) 2 rfl).trans <|
    (runs_if_t (a := 21) (b := 10) (L := [.ref 0, .int x1, .int x2]) (st := []) (w := w) rfl h2).trans <|
    (runs_stps (q' := (23, [.null, .null, .null], [.int (-1000000)], w)) 1 rfl).trans <|
    runs_ret rfl
  · exact (runs_stps (q' := (1, [.ref 0, .int x1, .int x2], [.int x1], w)) 1 rfl).trans <|
    (runs_if_f (a := 21) (b := 4) (L := [.ref 0, .int x1, .int x2]) (st := []) (w := w) rfl h1).trans <|
    (runs_stps (q' := (7, [.ref 0, .int x1, .int x2], [.int 6, .int x1], w)) 2 rfl).trans <|
    (runs_if_t (a := 21) (b := 10) (L := [.ref 0, .int x1, .int x2]) (st := []) (w := w) rfl h2).trans <|
    (runs_stps (q' := (23, [.null, .null, .null], [.int (-1000000)], w)) 1 rfl).trans <|
    runs_ret rfl

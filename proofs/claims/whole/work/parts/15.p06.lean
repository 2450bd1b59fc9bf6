/-! paths of the methods (printed by a program) -/
theorem p_X8_rate_0FFT_R {ex : Ex} {p : Nat} {x1 : Int32} {x2 : Int32} {r1 : Int32} {w1 : Wd} {r2 : Int32} {w2 : Wd} {w : Wd} (hp : scp p) (h1 : ¬ x1 < 0) (h2 : ¬ 6 ≤ x1) (h3 : w.1 0 5 = nI p) (h4 : ex 59 [.ref p, .int x2] w = some (some (.int r1), w1)) (h5 : ¬ r1 = 0) (h6 : w1.1 0 5 = nI p) (h7 : ex 12 [.ref 19, .int x1, .ref p, .ref 4, .int x2] w1 = some (some (.int r2), w2)) : runs (T_X8_rate ex) (0, [.ref 0, .int x1, .int x2], [], w) = some (some (.int r2), w2) := by
  rcases hp with rfl | rfl
  · exact (runs_stps (q' := (1, [.ref 0, .int x1, .int x2], [.int x1], w)) 1 rfl).trans <|
    (runs_if_f (a := 21) (b := 4) (L := [.ref 0, .int x1, .int x2]) (st := []) (w := w) rfl h1).trans <|
    (runs_stps (q' := (7, [.ref 0, .int x1, .int x2], [.int 6, .int x1], w)) 2 rfl).trans <|
    (runs_if_f (a := 21) (b := 10) (L := [.ref 0, .int x1, .int x2]) (st := []) (w := w) rfl h2).trans <|
    (runs_stps (q' := (11, [.ref 0, .int x1, .int x2], [.ref 0], w)) 1 rfl).trans <|
    (runs_getD (pc := 14) (L := [.ref 0, .int x1, .int x2]) (st := []) (w := w) rfl h3 (by decide)).trans <|
    (runs_stps (q' := (15, [.ref 0, .int x1, .int x2], [.int x2, .ref 20], w)) 1 rfl).trans <|
    (runs_callV (rv := some (.int r1)) (w' := w1) rfl rfl rfl rfl h4).trans <|
    (runs_if_f (a := 21) (b := 24) (L := [.ref 0, .int x1, .int x2]) (st := []) (w := w1) rfl h5).trans <|
    (runs_stps (q' := (30, [.ref 0, .int x1, .int x2], [.ref 0, .int x1, .ref 19], w1)) 4 rfl).trans <|
    (runs_getD (pc := 33) (L := [.ref 0, .int x1, .int x2]) (st := [.int x1, .ref 19]) (w := w1) rfl h6 (by decide)).trans <|
    (runs_stps (q' := (38, [.ref 0, .int x1, .int x2], [.int x2, .ref 4, .ref 20, .int x1, .ref 19], w1)) 3 rfl).trans <|
    (runs_callV (rv := some (.int r2)) (w' := w2) rfl rfl rfl rfl h7).trans <|
    runs_ret rfl
  · exact (runs_stps (q' := (1, [.ref 0, .int x1, .int x2], [.int x1], w)) 1 rfl).trans <|
    (runs_if_f (a := 21) (b := 4) (L := [.ref 0, .int x1, .int x2]) (st := []) (w := w) rfl h1).trans <|
    (runs_stps (q' := (7, [.ref 0, .int x1, .int x2], [.int 6, .int x1], w)) 2 rfl).trans <|
    (runs_if_f (a := 21) (b := 10) (L := [.ref 0, .int x1, .int x2]) (st := []) (w := w) rfl h2).trans <|
    (runs_stps (q' := (11, [.ref 0, .int x1, .int x2], [.ref 0], w)) 1 rfl).trans <|
    (runs_getD (pc := 14) (L := [.ref 0, .int x1, .int x2]) (st := []) (w := w) rfl h3 (by decide)).trans <|
    (runs_stps (q' := (15, [.ref 0, .int x1, .int x2], [.int x2, .ref 27], w)) 1 rfl).trans <|
    (runs_callV (rv := some (.int r1)) (w' := w1) rfl rfl rfl rfl h4).trans <|
    (runs_if_f (a := 21) (b := 24) (L := [.ref 0, .int x1, .int x2]) (st := []) (w := w1) rfl h5).trans <|
    (runs_stps (q' := (30, [.ref 0, .int x1, .int x2], [.ref 0, .int x1, .ref 19], w1)) 4 rfl).trans <|
    (runs_getD (pc := 33) (L := [.ref 0, .int x1, .int x2]) (st := [.int x1, .ref 19]) (w := w1) rfl h6 (by decide)).trans <|
    (runs_stps (q' := (38, [.ref 0, .int x1, .int x2], [.int x2, .ref 4, .ref 27, .int x1, .ref 19], w1)) 3 rfl).trans <|
    (runs_callV (rv := some (.int r2)) (w' := w2) rfl rfl rfl rfl h7).trans <|
    runs_ret rfl
theorem p_X8_rate_0FFF_R {ex : Ex} {p : Nat} {x1 : Int32} {x2 : Int32} {r1 : Int32} {w1 : Wd} {w : Wd} (hp : scp p) (h1 : ¬ x1 < 0) (h2 : ¬ 6 ≤ x1) (h3 : w.1 0 5 = nI p) (h4 : ex 59 [.ref p, .int x2] w = some (some (.int r1), w1)) (h5 : r1 = 0) : runs (T_X8_rate ex) (0, [.ref 0, .int x1, .int x2], [], w) = some (some (.int (-1000000)), w1) := by
  rcases hp with rfl | rfl
  · exact (runs_stps (q' := (1, [.ref 0, .int x1, .int x2], [.int x1], w)) 1 rfl).trans <|
    (runs_if_f (a := 21) (b := 4) (L := [.ref 0, .int x1, .int x2]) (st := []) (w := w) rfl h1).trans <|
    (runs_stps (q' := (7, [.ref 0, .int x1, .int x2], [.int 6, .int x1], w)) 2 rfl).trans <|
    (runs_if_f (a := 21) (b := 10) (L := [.ref 0, .int x1, .int x2]) (st := []) (w := w) rfl h2).trans <|
    (runs_stps (q' := (11, [.ref 0, .int x1, .int x2], [.ref 0], w)) 1 rfl).trans <|
    (runs_getD (pc := 14) (L := [.ref 0, .int x1, .int x2]) (st := []) (w := w) rfl h3 (by decide)).trans <|
    (runs_stps (q' := (15, [.ref 0, .int x1, .int x2], [.int x2, .ref 20], w)) 1 rfl).trans <|
    (runs_callV (rv := some (.int r1)) (w' := w1) rfl rfl rfl rfl h4).trans <|
    (runs_if_t (a := 21) (b := 24) (L := [.ref 0, .int x1, .int x2]) (st := []) (w := w1) rfl h5).trans <|
    (runs_stps (q' := (23, [.null, .null, .null], [.int (-1000000)], w1)) 1 rfl).trans <|
    runs_ret rfl
  · exact (runs_stps (q' := (1, [.ref 0, .int x1, .int x2], [.int x1], w)) 1 rfl).trans <|
    (runs_if_f (a := 21) (b := 4) (L := [.ref 0, .int x1, .int x2]) (st := []) (w := w) rfl h1).trans <|
    (runs_stps (q' := (7, [.ref 0, .int x1, .int x2], [.int 6, .int x1], w)) 2 rfl).trans <|
    (runs_if_f (a := 21) (b := 10) (L := [.ref 0, .int x1, .int x2]) (st := []) (w := w) rfl h2).trans <|
    (runs_stps (q' := (11, [.ref 0, .int x1, .int x2], [.ref 0], w)) 1 rfl).trans <|
    (runs_getD (pc := 14) (L := [.ref 0, .int x1, .int x2]) (st := []) (w := w) rfl h3 (by decide)).trans <|
    (runs_stps (q' := (15, [.ref 0, .int x1, .int x2], [.int x2, .ref 27], w)) 1 rfl).trans <|
    (runs_callV (rv := some (.int r1)) (w' := w1) rfl rfl rfl rfl h4).trans <|
    (runs_if_t (a := 21) (b := 24) (L := [.ref 0, .int x1, .int x2]) (st := []) (w := w1) rfl h5).trans <|
    (runs_stps (q' := (23, [.null, .null, .null], [.int (-1000000)], w1)) 1 rfl).trans <|
    runs_ret rfl
theorem p_X8_keep_0T_R {ex : Ex} {x1 : Int32} {w : Wd} (h1 : x1 < 0) : runs (T_X8_keep ex) (0, [.ref 0, .int x1], [], w) = some (some (.int (-1)), w) := 
    (runs_stps (q' := (1, [.ref 0, .int x1], [.int x1], w)) 1 rfl).trans <|
    (runs_if_t (a := 9) (b := 4) (L := [.ref 0, .int x1]) (st := []) (w := w) rfl h1).trans <|
    (runs_stps (q' := (10, [.null, .null], [.int (-1)], w)) 1 rfl).trans <|
    runs_ret rfl
theorem p_X8_keep_0FT_R {ex : Ex} {x1 : Int32} {w1 : Wd} {r2 : Int32} {w2 : Wd} {w : Wd} (h1 : ¬ x1 < 0) (h2 : x1 < 2) (h3 : ex 100 [.ref 4, .int x1] w = some (none, w1)) (h4 : ex 93 [.ref 4] w1 = some (some (.int r2), w2)) : runs (T_X8_keep ex) (0, [.ref 0, .int x1], [], w) = some (some (.int r2), w2) := 
    (runs_stps (q' := (1, [.ref 0, .int x1], [.int x1], w)) 1 rfl).trans <|
    (runs_if_f (a := 9) (b := 4) (L := [.ref 0, .int x1]) (st := []) (w := w) rfl h1).trans <|
    (runs_stps (q' := (6, [.ref 0, .int x1], [.int 2, .int x1], w)) 2 rfl).trans <|
    (runs_if_t (a := 11) (b := 9) (L := [.ref 0, .int x1]) (st := []) (w := w) rfl h2).trans <|
    (runs_stps (q' := (16, [.ref 0, .int x1], [.int x1, .ref 4], w)) 3 rfl).trans <|
    (runs_callV (rv := none) (w' := w1) rfl rfl rfl rfl h3).trans <|
    (runs_stps (q' := (23, [.ref 0, .int x1], [.ref 4], w1)) 2 rfl).trans <|
    (runs_callV (rv := some (.int r2)) (w' := w2) rfl rfl rfl rfl h4).trans <|
    runs_ret rfl
theorem p_X8_keep_0FF_R {ex : Ex} {x1 : Int32} {w : Wd} (h1 : ¬ x1 < 0) (h2 : ¬ x1 < 2) : runs (T_X8_keep ex) (0, [.ref 0, .int x1], [], w) = some (some (.int (-1)), w) := 
    (runs_stps (q' := (1, [.ref 0, .int x1], [.int x1], w)) 1 rfl).trans <|
    (runs_if_f (a := 9) (b := 4) (L := [.ref 0, .int x1]) (st := []) (w := w) rfl h1).trans <|
    (runs_stps (q' := (6, [.ref 0, .int x1], [.int 2, .int x1], w)) 2 rfl).trans <|
    (runs_if_f (a := 11) (b := 9) (L := [.ref 0, .int x1]) (st := []) (w := w) rfl h2).trans <|
    (runs_stps (q' := (10, [.null, .null], [.int (-1)], w)) 1 rfl).trans <|
    runs_ret rfl
theorem p_X8_back_0T_R {ex : Ex} {x1 : Int32} {w : Wd} (h1 : x1 < 0) : runs (T_X8_back ex) (0, [.ref 0, .int x1], [], w) = some (some (.int (-1)), w) := 
    (runs_stps (q' := (1, [.ref 0, .int x1], [.int x1], w)) 1 rfl).trans <|
    (runs_if_t (a := 9) (b := 4) (L := [.ref 0, .int x1]) (st := []) (w := w) rfl h1).trans <|
    (runs_stps (q' := (10, [.null, .null], [.int (-1)], w)) 1 rfl).trans <|
    runs_ret rfl
theorem p_X8_back_0FTT_R {ex : Ex} {x1 : Int32} {r1 : Int32} {w1 : Wd} {w : Wd} (h1 : ¬ x1 < 0) (h2 : x1 < 2) (h3 : ex 101 [.ref 4, .int x1] w = some (some (.int r1), w1)) (h4 : r1 = 0) : runs (T_X8_back ex) (0, [.ref 0, .int x1], [], w) = some (some (.int (-2)), w1) := 
    (runs_stps (q' := (1, [.ref 0, .int x1], [.int x1], w)) 1 rfl).trans <|
    (runs_if_f (a := 9) (b := 4) (L := [.ref 0, .int x1]) (st := []) (w := w) rfl h1).trans <|
    (runs_stps (q' := (6, [.ref 0, .int x1], [.int 2, .int x1], w)) 2 rfl).trans <|
    (runs_if_t (a := 11) (b := 9) (L := [.ref 0, .int x1]) (st := []) (w := w) rfl h2).trans <|
    (runs_stps (q' := (16, [.ref 0, .int x1], [.int x1, .ref 4], w)) 3 rfl).trans <|
    (runs_callV (rv := some (.int r1)) (w' := w1) rfl rfl rfl rfl h3).trans <|
    (runs_if_t (a := 32) (b := 22) (L := [.ref 0, .int x1]) (st := []) (w := w1) rfl h4).trans <|
    (runs_stps (q' := (34, [.null, .null], [.int (-2)], w1)) 1 rfl).trans <|
    runs_ret rfl
theorem p_X8_back_0FTF_R {ex : Ex} {x1 : Int32} {r1 : Int32} {w1 : Wd} {r2 : Int32} {w2 : Wd} {w : Wd} (h1 : ¬ x1 < 0) (h2 : x1 < 2) (h3 : ex 101 [.ref 4, .int x1] w = some (some (.int r1), w1)) (h4 : ¬ r1 = 0) (h5 : ex 93 [.ref 4] w1 = some (some (.int r2), w2)) : runs (T_X8_back ex) (0, [.ref 0, .int x1], [], w) = some (some (.int r2), w2) := 
    (runs_stps (q' := (1, [.ref 0, .int x1], [.int x1], w)) 1 rfl).trans <|
    (runs_if_f (a := 9) (b := 4) (L := [.ref 0, .int x1]) (st := []) (w := w) rfl h1).trans <|
    (runs_stps (q' := (6, [.ref 0, .int x1], [.int 2, .int x1], w)) 2 rfl).trans <|
    (runs_if_t (a := 11) (b := 9) (L := [.ref 0, .int x1]) (st := []) (w := w) rfl h2).trans <|
    (runs_stps (q' := (16, [.ref 0, .int x1], [.int x1, .ref 4], w)) 3 rfl).trans <|
    (runs_callV (rv := some (.int r1)) (w' := w1) rfl rfl rfl rfl h3).trans <|
    (runs_if_f (a := 32) (b := 22) (L := [.ref 0, .int x1]) (st := []) (w := w1) rfl h4).trans <|
    (runs_stps (q' := (26, [.ref 0, .int x1], [.ref 4], w1)) 2 rfl).trans <|
    (runs_callV (rv := some (.int r2)) (w' := w2) rfl rfl rfl rfl h5).trans <|
    (runs_stps (q' := (34, [.ref 0, .int x1], [.int r2], w2)) 1 rfl).trans <|
    runs_ret rfl
theorem p_X8_back_0FF_R {ex : Ex} {x1 : Int32} {w : Wd} (h1 : ¬ x1 < 0) (h2 : ¬ x1 < 2) : runs (T_X8_back ex) (0, [.ref 0, .int x1], [], w) = some (some (.int (-1)), w) := 
    (runs_stps (q' := (1, [.ref 0, .int x1], [.int x1], w)) 1 rfl).trans <|
    (runs_if_f (a := 9) (b := 4) (L := [.ref 0, .int x1]) (st := []) (w := w) rfl h1).trans <|
    (runs_stps (q' := (6, [.ref 0, .int x1], [.int 2, .int x1], w)) 2 rfl).trans <|
    (runs_if_f (a := 11) (b := 9) (L := [.ref 0, .int x1]) (st := []) (w := w) rfl h2).trans <|
    (runs_stps (q' := (10, [.null, .null], [.int (-1)], w)) 1 rfl).trans <|
    runs_ret rfl
theorem p_X8_count_0S0_R {ex : Ex} {p : Nat} {x1 : Int32} {r1 : Int32} {w1 : Wd} {w : Wd} (hp : scp p) (h1 : x1 = 0) (h2 : w.1 0 5 = nI p) (h3 : ex 53 [.ref p] w = some (some (.int r1), w1)) : runs (T_X8_count ex) (0, [.ref 0, .int x1], [], w) = some (some (.int r1), w1) := by
  rcases hp with rfl | rfl
  · exact (runs_stps (q' := (1, [.ref 0, .int x1], [.int x1], w)) 1 rfl).trans <|
    (runs_sw (L := [.ref 0, .int x1]) (st := []) (w := w) rfl (show tsel _ _ _ = 48 by rw [h1]; rfl)).trans <|
    (runs_stps (q' := (49, [.ref 0, .null], [.ref 0], w)) 1 rfl).trans <|
    (runs_getD (pc := 52) (L := [.ref 0, .null]) (st := []) (w := w) rfl h2 (by decide)).trans <|
    (runs_callV (rv := some (.int r1)) (w' := w1) rfl rfl rfl rfl h3).trans <|
    runs_ret rfl
  · exact (runs_stps (q' := (1, [.ref 0, .int x1], [.int x1], w)) 1 rfl).trans <|
    (runs_sw (L := [.ref 0, .int x1]) (st := []) (w := w) rfl (show tsel _ _ _ = 48 by rw [h1]; rfl)).trans <|
    (runs_stps (q' := (49, [.ref 0, .null], [.ref 0], w)) 1 rfl).trans <|
    (runs_getD (pc := 52) (L := [.ref 0, .null]) (st := []) (w := w) rfl h2 (by decide)).trans <|
    (runs_callV (rv := some (.int r1)) (w' := w1) rfl rfl rfl rfl h3).trans <|
    runs_ret rfl
theorem p_X8_count_0S1_R {ex : Ex} {p : Nat} {x1 : Int32} {r1 : Int32} {w1 : Wd} {w : Wd} (hp : scp p) (h1 : x1 = 1) (h2 : w.1 0 5 = nI p) (h3 : ex 54 [.ref p] w = some (some (.int r1), w1)) : runs (T_X8_count ex) (0, [.ref 0, .int x1], [], w) = some (some (.int r1), w1) := by
  rcases hp with rfl | rfl
  · exact (runs_stps (q' := (1, [.ref 0, .int x1], [.int x1], w)) 1 rfl).trans <|
    (runs_sw (L := [.ref 0, .int x1]) (st := []) (w := w) rfl (show tsel _ _ _ = 56 by rw [h1]; rfl)).trans <|
    (runs_stps (q' := (57, [.ref 0, .null], [.ref 0], w)) 1 rfl).trans <|
    (runs_getD (pc := 60) (L := [.ref 0, .null]) (st := []) (w := w) rfl h2 (by decide)).trans <|
    (runs_callV (rv := some (.int r1)) (w' := w1) rfl rfl rfl rfl h3).trans <|
    runs_ret rfl
  · exact (runs_stps (q' := (1, [.ref 0, .int x1], [.int x1], w)) 1 rfl).trans <|
    (runs_sw (L := [.ref 0, .int x1]) (st := []) (w := w) rfl (show tsel _ _ _ = 56 by rw [h1]; rfl)).trans <|
    (runs_stps (q' := (57, [.ref 0, .null], [.ref 0], w)) 1 rfl).trans <|
    (runs_getD (pc := 60) (L := [.ref 0, .null]) (st := []) (w := w) rfl h2 (by decide)).trans <|
    (runs_callV (rv := some (.int r1)) (w' := w1) rfl rfl rfl rfl h3).trans <|
    runs_ret rfl
theorem p_X8_count_0S2_R {ex : Ex} {p : Nat} {x1 : Int32} {r1 : Int32} {w1 : Wd} {w : Wd} (hp : scp p) (h1 : x1 = 2) (h2 : w.1 0 5 = nI p) (h3 : ex 55 [.ref p] w = some (some (.int r1), w1)) : runs (T_X8_count ex) (0, [.ref 0, .int x1], [], w) = some (some (.int r1), w1) := by
  rcases hp with rfl | rfl
  · exact (runs_stps (q' := (1, [.ref 0, .int x1], [.int x1], w)) 1 rfl).trans <|
    (runs_sw (L := [.ref 0, .int x1]) (st := []) (w := w) rfl (show tsel _ _ _ = 64 by rw [h1]; rfl)).trans <|
    (runs_stps (q' := (65, [.ref 0, .null], [.ref 0], w)) 1 rfl).trans <|
    (runs_getD (pc := 68) (L := [.ref 0, .null]) (st := []) (w := w) rfl h2 (by decide)).trans <|
    (runs_callV (rv := some (.int r1)) (w' := w1) rfl rfl rfl rfl h3).trans <|
    runs_ret rfl
  · exact (runs_stps (q' := (1, [.ref 0, .int x1], [.int x1], w)) 1 rfl).trans <|
    (runs_sw (L := [.ref 0, .int x1]) (st := []) (w := w) rfl (show tsel _ _ _ = 64 by rw [h1]; rfl)).trans <|
    (runs_stps (q' := (65, [.ref 0, .null], [.ref 0], w)) 1 rfl).trans <|
    (runs_getD (pc := 68) (L := [.ref 0, .null]) (st := []) (w := w) rfl h2 (by decide)).trans <|
    (runs_callV (rv := some (.int r1)) (w' := w1) rfl rfl rfl rfl h3).trans <|
    runs_ret rfl
theorem p_X8_count_0S3_R {ex : Ex} {p : Nat} {x1 : Int32} {r1 : Int32} {w1 : Wd} {w : Wd} (hp : scp p) (h1 : x1 = 3) (h2 : ex 2 [.ref 15] w = some (some (.int r1), w1)) : runs (T_X8_count ex) (0, [.ref 0, .int x1], [], w) = some (some (.int r1), w1) := by
  rcases hp with rfl | rfl
  · exact (runs_stps (q' := (1, [.ref 0, .int x1], [.int x1], w)) 1 rfl).trans <|
    (runs_sw (L := [.ref 0, .int x1]) (st := []) (w := w) rfl (show tsel _ _ _ = 72 by rw [h1]; rfl)).trans <|
    (runs_stps (q' := (76, [.ref 0, .null], [.ref 15], w)) 2 rfl).trans <|
    (runs_callV (rv := some (.int r1)) (w' := w1) rfl rfl rfl rfl h2).trans <|
    runs_ret rfl
  · exact (runs_stps (q' := (1, [.ref 0, .int x1], [.int x1], w)) 1 rfl).trans <|
    (runs_sw (L := [.ref 0, .int x1]) (st := []) (w := w) rfl (show tsel _ _ _ = 72 by rw [h1]; rfl)).trans <|
    (runs_stps (q' := (76, [.ref 0, .null], [.ref 15], w)) 2 rfl).trans <|
    (runs_callV (rv := some (.int r1)) (w' := w1) rfl rfl rfl rfl h2).trans <|
    runs_ret rfl
theorem p_X8_count_0S4_R {ex : Ex} {p : Nat} {x1 : Int32} {r1 : Int32} {w1 : Wd} {w : Wd} (hp : scp p) (h1 : x1 = 4) (h2 : ex 19 [.ref 1] w = some (some (.int r1), w1)) : runs (T_X8_count ex) (0, [.ref 0, .int x1], [], w) = some (some (.int r1), w1) := by
  rcases hp with rfl | rfl
  · exact (runs_stps (q' := (1, [.ref 0, .int x1], [.int x1], w)) 1 rfl).trans <|
    (runs_sw (L := [.ref 0, .int x1]) (st := []) (w := w) rfl (show tsel _ _ _ = 80 by rw [h1]; rfl)).trans <|
    (runs_stps (q' := (84, [.ref 0, .null], [.ref 1], w)) 2 rfl).trans <|
    (runs_callV (rv := some (.int r1)) (w' := w1) rfl rfl rfl rfl h2).trans <|
    runs_ret rfl
  · exact (runs_stps (q' := (1, [.ref 0, .int x1], [.int x1], w)) 1 rfl).trans <|
    (runs_sw (L := [.ref 0, .int x1]) (st := []) (w := w) rfl (show tsel _ _ _ = 80 by rw [h1]; rfl)).trans <|
    (runs_stps (q' := (84, [.ref 0, .null], [.ref 1], w)) 2 rfl).trans <|
    (runs_callV (rv := some (.int r1)) (w' := w1) rfl rfl rfl rfl h2).trans <|
    runs_ret rfl
theorem p_X8_count_0S5_R {ex : Ex} {p : Nat} {x1 : Int32} {r1 : Int32} {w1 : Wd} {w : Wd} (hp : scp p) (h1 : x1 = 5) (h2 : w.1 0 5 = nI p) (h3 : ex 56 [.ref p] w = some (some (.int r1), w1)) : runs (T_X8_count ex) (0, [.ref 0, .int x1], [], w) = some (some (.int r1), w1) := by
  rcases hp with rfl | rfl
  · exact (runs_stps (q' := (1, [.ref 0, .int x1], [.int x1], w)) 1 rfl).trans <|
    (runs_sw (L := [.ref 0, .int x1]) (st := []) (w := w) rfl (show tsel _ _ _ = 88 by rw [h1]; rfl)).trans <|
    (runs_stps (q' := (89, [.ref 0, .null], [.ref 0], w)) 1 rfl).trans <|
    (runs_getD (pc := 92) (L := [.ref 0, .null]) (st := []) (w := w) rfl h2 (by decide)).trans <|
    (runs_callV (rv := some (.int r1)) (w' := w1) rfl rfl rfl rfl h3).trans <|
    runs_ret rfl
  · exact (runs_stps (q' := (1, [.ref 0, .int x1], [.int x1], w)) 1 rfl).trans <|
    (runs_sw (L := [.ref 0, .int x1]) (st := []) (w := w) rfl (show tsel _ _ _ = 88 by rw [h1]; rfl)).trans <|
    (runs_stps (q' := (89, [.ref 0, .null], [.ref 0], w)) 1 rfl).trans <|
    (runs_getD (pc := 92) (L := [.ref 0, .null]) (st := []) (w := w) rfl h2 (by decide)).trans <|
    (runs_callV (rv := some (.int r1)) (w' := w1) rfl rfl rfl rfl h3).trans <|
    runs_ret rfl
theorem p_X8_count_0S6_R {ex : Ex} {p : Nat} {x1 : Int32} {r1 : Int32} {w1 : Wd} {w : Wd} (hp : scp p) (h1 : x1 = 6) (h2 : w.1 0 5 = nI p) (h3 : ex 57 [.ref p] w = some (some (.int r1), w1)) : runs (T_X8_count ex) (0, [.ref 0, .int x1], [], w) = some (some (.int r1), w1) := by
  rcases hp with rfl | rfl
  · exact (runs_stps (q' := (1, [.ref 0, .int x1], [.int x1], w)) 1 rfl).trans <|
    (runs_sw (L := [.ref 0, .int x1]) (st := []) (w := w) rfl (show tsel _ _ _ = 96 by rw [h1]; rfl)).trans <|
    (runs_stps (q' := (97, [.ref 0, .null], [.ref 0], w)) 1 rfl).trans <|
    (runs_getD (pc := 100) (L := [.ref 0, .null]) (st := []) (w := w) rfl h2 (by decide)).trans <|
    (runs_callV (rv := some (.int r1)) (w' := w1) rfl rfl rfl rfl h3).trans <|
    runs_ret rfl
  · exact (runs_stps (q' := (1, [.ref 0, .int x1], [.int x1], w)) 1 rfl).trans <|
    (runs_sw (L := [.ref 0, .int x1]) (st := []) (w := w) rfl (show tsel _ _ _ = 96 by rw [h1]; rfl)).trans <|
    (runs_stps (q' := (97, [.ref 0, .null], [.ref 0], w)) 1 rfl).trans <|
    (runs_getD (pc := 100) (L := [.ref 0, .null]) (st := []) (w := w) rfl h2 (by decide)).trans <|
    (runs_callV (rv := some (.int r1)) (w' := w1) rfl rfl rfl rfl h3).trans <|
    runs_ret rfl
theorem p_X8_count_0S7_R {ex : Ex} {p : Nat} {x1 : Int32} {r1 : Int32} {w1 : Wd} {w : Wd} (hp : scp p) (h1 : x1 = 7) (h2 : w.1 0 5 = nI p) (h3 : ex 58 [.ref p] w = some (some (.int r1), w1)) : runs (T_X8_count ex) (0, [.ref 0, .int x1], [], w) = some (some (.int r1), w1) := by
  rcases hp with rfl | rfl
  · exact (runs_stps (q' := (1, [.ref 0, .int x1], [.int x1], w)) 1 rfl).trans <|
    (runs_sw (L := [.ref 0, .int x1]) (st := []) (w := w) rfl (show tsel _ _ _ = 104 by rw [h1]; rfl)).trans <|
    (runs_stps (q' := (105, [.ref 0, .null], [.ref 0], w)) 1 rfl).trans <|
    (runs_getD (pc := 108) (L := [.ref 0, .null]) (st := []) (w := w) rfl h2 (by decide)).trans <|
    (runs_callV (rv := some (.int r1)) (w' := w1) rfl rfl rfl rfl h3).trans <|
    runs_ret rfl
  · exact (runs_stps (q' := (1, [.ref 0, .int x1], [.int x1], w)) 1 rfl).trans <|
    (runs_sw (L := [.ref 0, .int x1]) (st := []) (w := w) rfl (show tsel _ _ _ = 104 by rw [h1]; rfl)).trans <|
    (runs_stps (q' := (105, [.ref 0, .null], [.ref 0], w)) 1 rfl).trans <|
    (runs_getD (pc := 108) (L := [.ref 0, .null]) (st := []) (w := w) rfl h2 (by decide)).trans <|
    (runs_callV (rv := some (.int r1)) (w' := w1) rfl rfl rfl rfl h3).trans <|
    runs_ret rfl
theorem p_X8_count_0Sd_R {ex : Ex} {p : Nat} {x1 : Int32} {w : Wd} (hp : scp p) (h1 : ¬ x1 = 0) (h2 : ¬ x1 = 1) (h3 : ¬ x1 = 2) (h4 : ¬ x1 = 3) (h5 : ¬ x1 = 4) (h6 : ¬ x1 = 5) (h7 : ¬ x1 = 6) (h8 : ¬ x1 = 7) : runs (T_X8_count ex) (0, [.ref 0, .int x1], [], w) = some (some (.int (-1)), w) := by
  rcases hp with rfl | rfl
  · exact (runs_stps (q' := (1, [.ref 0, .int x1], [.int x1], w)) 1 rfl).trans <|
    (runs_sw (L := [.ref 0, .int x1]) (st := []) (w := w) rfl (show tsel _ _ _ = 112 by simp only [tsel, h1, h2, h3, h4, h5, h6, h7, h8, if_false])).trans <|
    (runs_stps (q' := (113, [.null, .null], [.int (-1)], w)) 1 rfl).trans <|
    runs_ret rfl
  · exact (runs_stps (q' := (1, [.ref 0, .int x1], [.int x1], w)) 1 rfl).trans <|
    (runs_sw (L := [.ref 0, .int x1]) (st := []) (w := w) rfl (show tsel _ _ _ = 112 by simp only [tsel, h1, h2, h3, h4, h5, h6, h7, h8, if_false])).trans <|
    (runs_stps (q' := (113, [.null, .null], [.int (-1)], w)) 1 rfl).trans <|
    runs_ret rfl
theorem p_X8_trace_0_R {ex : Ex} {r1 : Int64} {w1 : Wd} {w : Wd} (h1 : ex 11 [.ref 19] w = some (some (.long r1), w1)) : runs (T_X8_trace ex) (0, [.ref 0], [], w) = some (some (.long r1), w1) := 
    (runs_stps (q' := (4, [.ref 0], [.ref 19], w)) 2 rfl).trans <|
    (runs_callV (rv := some (.long r1)) (w' := w1) rfl rfl rfl rfl h1).trans <|
    runs_ret rfl
theorem p_X8_isEffectSet_0T_R {ex : Ex} {x0 : Int32} {w : Wd} (h1 : x0 < 0) : runs (T_X8_isEffectSet ex) (0, [.int x0], [], w) = some (some (.int 0), w) := 
    (runs_stps (q' := (1, [.int x0], [.int x0], w)) 1 rfl).trans <|
    (runs_if_t (a := 15) (b := 4) (L := [.int x0]) (st := []) (w := w) rfl h1).trans <|
    (runs_stps (q' := (16, [.null], [.int 0], w)) 1 rfl).trans <|
    runs_ret rfl
theorem p_X8_isEffectSet_0FT_R {ex : Ex} {x0 : Int32} {w : Wd} (h1 : ¬ x0 < 0) (h2 : 1024 ≤ x0) : runs (T_X8_isEffectSet ex) (0, [.int x0], [], w) = some (some (.int 0), w) := 
    (runs_stps (q' := (1, [.int x0], [.int x0], w)) 1 rfl).trans <|
    (runs_if_f (a := 15) (b := 4) (L := [.int x0]) (st := []) (w := w) rfl h1).trans <|
    (runs_stps (q' := (8, [.int x0], [.int 1024, .int x0], w)) 2 rfl).trans <|
    (runs_if_t (a := 15) (b := 11) (L := [.int x0]) (st := []) (w := w) rfl h2).trans <|
    (runs_stps (q' := (16, [.null], [.int 0], w)) 1 rfl).trans <|
    runs_ret rfl
theorem p_X8_isEffectSet_0FF_R {ex : Ex} {x0 : Int32} {w : Wd} (h1 : ¬ x0 < 0) (h2 : ¬ 1024 ≤ x0) : runs (T_X8_isEffectSet ex) (0, [.int x0], [], w) = some (some (.int 1), w) := 
    (runs_stps (q' := (1, [.int x0], [.int x0], w)) 1 rfl).trans <|
    (runs_if_f (a := 15) (b := 4) (L := [.int x0]) (st := []) (w := w) rfl h1).trans <|
    (runs_stps (q' := (8, [.int x0], [.int 1024, .int x0], w)) 2 rfl).trans <|
    (runs_if_f (a := 15) (b := 11) (L := [.int x0]) (st := []) (w := w) rfl h2).trans <|
    (runs_stps (q' := (16, [.int x0], [.int 1], w)) 2 rfl).trans <|
    runs_ret rfl
theorem p_X8_isYesOrNo_0T_R {ex : Ex} {x0 : Int32} {w : Wd} (h1 : x0 = 0) : runs (T_X8_isYesOrNo ex) (0, [.int x0], [], w) = some (some (.int 1), w) := 
    (runs_stps (q' := (1, [.int x0], [.int x0], w)) 1 rfl).trans <|
    (runs_if_t (a := 9) (b := 4) (L := [.int x0]) (st := []) (w := w) rfl h1).trans <|
    (runs_stps (q' := (14, [.null], [.int 1], w)) 2 rfl).trans <|
    runs_ret rfl
theorem p_X8_isYesOrNo_0FT_R {ex : Ex} {x0 : Int32} {w : Wd} (h1 : ¬ x0 = 0) (h2 : ¬ x0 = 1) : runs (T_X8_isYesOrNo ex) (0, [.int x0], [], w) = some (some (.int 0), w) := 
    (runs_stps (q' := (1, [.int x0], [.int x0], w)) 1 rfl).trans <|
    (runs_if_f (a := 9) (b := 4) (L := [.int x0]) (st := []) (w := w) rfl h1).trans <|
    (runs_stps (q' := (6, [.int x0], [.int 1, .int x0], w)) 2 rfl).trans <|
    (runs_if_f (a := 9) (b := 13) (L := [.int x0]) (st := []) (w := w) rfl h2).trans <|
    (runs_stps (q' := (14, [.null], [.int 0], w)) 1 rfl).trans <|
    runs_ret rfl
theorem p_X8_isYesOrNo_0FF_R {ex : Ex} {x0 : Int32} {w : Wd} (h1 : ¬ x0 = 0) (h2 : x0 = 1) : runs (T_X8_isYesOrNo ex) (0, [.int x0], [], w) = some (some (.int 1), w) := 
    (runs_stps (q' := (1, [.int x0], [.int x0], w)) 1 rfl).trans <|
    (runs_if_f (a := 9) (b := 4) (L := [.int x0]) (st := []) (w := w) rfl h1).trans <|
    (runs_stps (q' := (6, [.int x0], [.int 1, .int x0], w)) 2 rfl).trans <|
    (runs_if_t (a := 9) (b := 13) (L := [.int x0]) (st := []) (w := w) rfl h2).trans <|
    (runs_stps (q' := (14, [.null], [.int 1], w)) 2 rfl).trans <|
    runs_ret rfl
theorem p_X8_power_0_L5 {ex : Ex} {x0 : Int32} {x1 : Int32} {w : Wd} : runs (T_X8_power ex) (0, [.int x0, .int x1, .null, .null, .null], [], w) = runs (T_X8_power ex) (5, [.int x0, .int x1, .long 1, .null, .int 0], [], w) := 
    (runs_stps (q' := (5, [.int x0, .int x1, .long 1, .null, .int 0], [], w)) 4 rfl).trans <|
    rfl
theorem p_X8_power_5T_R {ex : Ex} {x0 : Int32} {x1 : Int32} {x2 : Int64} {x4 : Int32} {w : Wd} (h1 : x1 ≤ x4) : runs (T_X8_power ex) (5, [.int x0, .int x1, .long x2, .null, .int x4], [], w) = some (some (.long x2), w) := 
    (runs_stps (q' := (8, [.int x0, .int x1, .long x2, .null, .int x4], [.int x1, .int x4], w)) 2 rfl).trans <|
    (runs_if_t (a := 22) (b := 11) (L := [.int x0, .int x1, .long x2, .null, .int x4]) (st := []) (w := w) rfl h1).trans <|
    (runs_stps (q' := (23, [.null, .null, .long x2, .null, .null], [.long x2], w)) 1 rfl).trans <|
    runs_ret rfl
theorem p_X8_power_5F_L5 {ex : Ex} {x0 : Int32} {x1 : Int32} {x2 : Int64} {x4 : Int32} {w : Wd} (h1 : ¬ x1 ≤ x4) : runs (T_X8_power ex) (5, [.int x0, .int x1, .long x2, .null, .int x4], [], w) = runs (T_X8_power ex) (5, [.int x0, .int x1, .long (x2 * x0.toInt64), .null, .int (x4 + 1)], [], w) := 
    (runs_stps (q' := (8, [.int x0, .int x1, .long x2, .null, .int x4], [.int x1, .int x4], w)) 2 rfl).trans <|
    (runs_if_f (a := 22) (b := 11) (L := [.int x0, .int x1, .long x2, .null, .int x4]) (st := []) (w := w) rfl h1).trans <|
    (runs_stps (q' := (5, [.int x0, .int x1, .long (x2 * x0.toInt64), .null, .int (x4 + 1)], [], w)) 7 rfl).trans <|
    rfl
theorem p_X9_in_0T_R {ex : Ex} {x0 : Int32} {x1 : Int32} {x2 : Int32} {w : Wd} (h1 : x0 < x1) : runs (T_X9_in ex) (0, [.int x0, .int x1, .int x2], [], w) = some (some (.int 0), w) := 
    (runs_stps (q' := (2, [.int x0, .int x1, .int x2], [.int x1, .int x0], w)) 2 rfl).trans <|
    (runs_if_t (a := 14) (b := 5) (L := [.int x0, .int x1, .int x2]) (st := []) (w := w) rfl h1).trans <|
    (runs_stps (q' := (15, [.null, .null, .null], [.int 0], w)) 1 rfl).trans <|
    runs_ret rfl
theorem p_X9_in_0FT_R {ex : Ex} {x0 : Int32} {x1 : Int32} {x2 : Int32} {w : Wd} (h1 : ¬ x0 < x1) (h2 : x2 < x0) : runs (T_X9_in ex) (0, [.int x0, .int x1, .int x2], [], w) = some (some (.int 0), w) := 
    (runs_stps (q' := (2, [.int x0, .int x1, .int x2], [.int x1, .int x0], w)) 2 rfl).trans <|
    (runs_if_f (a := 14) (b := 5) (L := [.int x0, .int x1, .int x2]) (st := []) (w := w) rfl h1).trans <|
    (runs_stps (q' := (7, [.int x0, .int x1, .int x2], [.int x2, .int x0], w)) 2 rfl).trans <|
    (runs_if_t (a := 14) (b := 10) (L := [.int x0, .int x1, .int x2]) (st := []) (w := w) rfl h2).trans <|
    (runs_stps (q' := (15, [.null, .null, .null], [.int 0], w)) 1 rfl).trans <|
    runs_ret rfl
theorem p_X9_in_0FF_R {ex : Ex} {x0 : Int32} {x1 : Int32} {x2 : Int32} {w : Wd} (h1 : ¬ x0 < x1) (h2 : ¬ x2 < x0) : runs (T_X9_in ex) (0, [.int x0, .int x1, .int x2], [], w) = some (some (.int 1), w) := 
    (runs_stps (q' := (2, [.int x0, .int x1, .int x2], [.int x1, .int x0], w)) 2 rfl).trans <|
    (runs_if_f (a := 14) (b := 5) (L := [.int x0, .int x1, .int x2]) (st := []) (w := w) rfl h1).trans <|
    (runs_stps (q' := (7, [.int x0, .int x1, .int x2], [.int x2, .int x0], w)) 2 rfl).trans <|
    (runs_if_f (a := 14) (b := 10) (L := [.int x0, .int x1, .int x2]) (st := []) (w := w) rfl h2).trans <|
    (runs_stps (q' := (15, [.int x0, .int x1, .int x2], [.int 1], w)) 2 rfl).trans <|
    runs_ret rfl
theorem p_X9_ones_0_L4 {ex : Ex} {x0 : Int32} {w : Wd} : runs (T_X9_ones ex) (0, [.int x0, .null, .null], [], w) = runs (T_X9_ones ex) (4, [.int x0, .int 0, .int 0], [], w) := 
    (runs_stps (q' := (4, [.int x0, .int 0, .int 0], [], w)) 4 rfl).trans <|
    rfl
theorem p_X9_ones_4T_R {ex : Ex} {x0 : Int32} {x1 : Int32} {x2 : Int32} {w : Wd} (h1 : 10 ≤ x2) : runs (T_X9_ones ex) (4, [.int x0, .int x1, .int x2], [], w) = some (some (.int x1), w) := 
    (runs_stps (q' := (7, [.int x0, .int x1, .int x2], [.int 10, .int x2], w)) 2 rfl).trans <|
    (runs_if_t (a := 24) (b := 10) (L := [.int x0, .int x1, .int x2]) (st := []) (w := w) rfl h1).trans <|
    (runs_stps (q' := (25, [.null, .int x1, .null], [.int x1], w)) 1 rfl).trans <|
    runs_ret rfl
theorem p_X9_ones_4F_L4 {ex : Ex} {x0 : Int32} {x1 : Int32} {x2 : Int32} {w : Wd} (h1 : ¬ 10 ≤ x2) : runs (T_X9_ones ex) (4, [.int x0, .int x1, .int x2], [], w) = runs (T_X9_ones ex) (4, [.int x0, .int (x1 + ((x0 >>> (x2 &&& 31)) &&& 1)), .int (x2 + 1)], [], w) := 
    (runs_stps (q' := (7, [.int x0, .int x1, .int x2], [.int 10, .int x2], w)) 2 rfl).trans <|
    (runs_if_f (a := 24) (b := 10) (L := [.int x0, .int x1, .int x2]) (st := []) (w := w) rfl h1).trans <|
    (runs_stps (q' := (4, [.int x0, .int (x1 + ((x0 >>> (x2 &&& 31)) &&& 1)), .int (x2 + 1)], [], w)) 10 rfl).trans <|
    rfl
theorem p_X9_type_0TT_L37 {ex : Ex} {x1 : Int64} {x3 : Int32} {r1 : Int32} {w1 : Wd} {w : Wd} (h1 : ex 135 [.int x3, .int 1, .int 8] (updI w 34 0 0) = some (some (.int r1), w1)) (h2 : ¬ r1 = 0) (h3 : ((w1.1 34 3) + x3) ≤ 300) : runs (T_X9_type ex) (0, [.ref 34, .long x1, .null, .int x3, .null], [], w) = runs (T_X9_type ex) (37, [.ref 34, .long x1, .null, .int x3, .int (x3 - 1)], [], w1) := 
    (runs_stps (q' := (9, [.ref 34, .long x1, .null, .int x3, .null], [.int 8, .int 1, .int x3], updI w 34 0 0)) 6 rfl).trans <|
    (runs_callS (rv := some (.int r1)) (w' := w1) rfl rfl rfl h1).trans <|
    (runs_if_f (a := 15) (b := 17) (L := [.ref 34, .long x1, .null, .int x3, .null]) (st := []) (w := w1) rfl h2).trans <|
    (runs_stps (q' := (26, [.ref 34, .long x1, .null, .int x3, .null], [.int 300, .int ((w1.1 34 3) + x3)], w1)) 5 rfl).trans <|
    (runs_if_t (a := 32) (b := 29) (L := [.ref 34, .long x1, .null, .int x3, .null]) (st := []) (w := w1) rfl h3).trans <|
    (runs_stps (q' := (37, [.ref 34, .long x1, .null, .int x3, .int (x3 - 1)], [], w1)) 4 rfl).trans <|
    rfl
theorem p_X9_type_0TF_R {ex : Ex} {x1 : Int64} {x3 : Int32} {r1 : Int32} {w1 : Wd} {w : Wd} (h1 : ex 135 [.int x3, .int 1, .int 8] (updI w 34 0 0) = some (some (.int r1), w1)) (h2 : ¬ r1 = 0) (h3 : ¬ ((w1.1 34 3) + x3) ≤ 300) : runs (T_X9_type ex) (0, [.ref 34, .long x1, .null, .int x3, .null], [], w) = some (some (.int (-3)), w1) := 
    (runs_stps (q' := (9, [.ref 34, .long x1, .null, .int x3, .null], [.int 8, .int 1, .int x3], updI w 34 0 0)) 6 rfl).trans <|
    (runs_callS (rv := some (.int r1)) (w' := w1) rfl rfl rfl h1).trans <|
    (runs_if_f (a := 15) (b := 17) (L := [.ref 34, .long x1, .null, .int x3, .null]) (st := []) (w := w1) rfl h2).trans <|
    (runs_stps (q' := (26, [.ref 34, .long x1, .null, .int x3, .null], [.int 300, .int ((w1.1 34 3) + x3)], w1)) 5 rfl).trans <|
    (runs_if_f (a := 32) (b := 29) (L := [.ref 34, .long x1, .null, .int x3, .null]) (st := []) (w := w1) rfl h3).trans <|
    (runs_stps (q' := (31, [.ref 34, .long x1, .null, .int x3, .null], [.int (-3)], w1)) 1 rfl).trans <|
    runs_ret rfl
theorem p_X9_type_0F_R {ex : Ex} {x1 : Int64} {x3 : Int32} {r1 : Int32} {w1 : Wd} {w : Wd} (h1 : ex 135 [.int x3, .int 1, .int 8] (updI w 34 0 0) = some (some (.int r1), w1)) (h2 : r1 = 0) : runs (T_X9_type ex) (0, [.ref 34, .long x1, .null, .int x3, .null], [], w) = some (some (.int (-1)), w1) := 
    (runs_stps (q' := (9, [.ref 34, .long x1, .null, .int x3, .null], [.int 8, .int 1, .int x3], updI w 34 0 0)) 6 rfl).trans <|
    (runs_callS (rv := some (.int r1)) (w' := w1) rfl rfl rfl h1).trans <|
    (runs_if_t (a := 15) (b := 17) (L := [.ref 34, .long x1, .null, .int x3, .null]) (st := []) (w := w1) rfl h2).trans <|
    (runs_stps (q' := (16, [.ref 34, .long x1, .null, .int x3, .null], [.int (-1)], w1)) 1 rfl).trans <|
    runs_ret rfl
theorem p_X9_type_37T_R {ex : Ex} {x1 : Int64} {v3 : Value} {x4 : Int32} {w : Wd} (h1 : x4 < 0) : runs (T_X9_type ex) (37, [.ref 34, .long x1, .null, v3, .int x4], [], w) = some (some (.int (w.1 34 3)), w) := 
    (runs_stps (q' := (39, [.ref 34, .long x1, .null, .null, .int x4], [.int x4], w)) 1 rfl).trans <|
    (runs_if_t (a := 79) (b := 42) (L := [.ref 34, .long x1, .null, .null, .int x4]) (st := []) (w := w) rfl h1).trans <|
    (runs_stps (q' := (83, [.ref 34, .null, .null, .null, .null], [.int (w.1 34 3)], w)) 2 rfl).trans <|
    runs_ret rfl
theorem p_X9_type_37F_L37 {ex : Ex} {x1 : Int64} {v3 : Value} {x4 : Int32} {w : Wd} (h1 : ¬ x4 < 0) (h2 : vp_in (w.1 34 3) 300) : runs (T_X9_type ex) (37, [.ref 34, .long x1, .null, v3, .int x4], [], w) = runs (T_X9_type ex) (37, [.ref 34, .long x1, .null, .null, .int (x4 + (-1))], [], updI (updI w 35 ((w.1 34 3).toNatClampNeg) (((x1 >>> ((8 * x4).toInt64 &&& 63)) &&& 255).toInt32)) 34 3 ((w.1 34 3) + 1)) := 
    (runs_stps (q' := (39, [.ref 34, .long x1, .null, .null, .int x4], [.int x4], w)) 1 rfl).trans <|
    (runs_if_f (a := 79) (b := 42) (L := [.ref 34, .long x1, .null, .null, .int x4]) (st := []) (w := w) rfl h1).trans <|
    (runs_stps (q' := (62, [.ref 34, .long x1, .null, .null, .int x4], [.int (((x1 >>> ((8 * x4).toInt64 &&& 63)) &&& 255).toInt32), .int (w.1 34 3), .ref 35], w)) 12 rfl).trans <|
    (runs_ck (q' := (63, [.ref 34, .long x1, .null, .null, .int x4], [], updI w 35 ((w.1 34 3).toNatClampNeg) (((x1 >>> ((8 * x4).toInt64 &&& 63)) &&& 255).toInt32))) rfl h2).trans <|
    (runs_stps (q' := (37, [.ref 34, .long x1, .null, .null, .int (x4 + (-1))], [], updI (updI w 35 ((w.1 34 3).toNatClampNeg) (((x1 >>> ((8 * x4).toInt64 &&& 63)) &&& 255).toInt32)) 34 3 ((w.1 34 3) + 1))) 8 rfl).trans <|
    rfl
theorem p_X9_clear_0_R {ex : Ex} {w : Wd} : runs (T_X9_clear ex) (0, [.ref 34, .null], [], w) = some (some (.int (w.1 34 3)), updI (updI w 34 0 0) 34 3 0) := 
    (runs_stps (q' := (16, [.ref 34, .int (w.1 34 3)], [.int (w.1 34 3)], updI (updI w 34 0 0) 34 3 0)) 10 rfl).trans <|
    runs_ret rfl
theorem p_X9_byteAt_0T_R {ex : Ex} {x1 : Int32} {w : Wd} (h1 : (w.1 34 3) ≤ x1) : runs (T_X9_byteAt ex) (0, [.ref 34, .int x1], [], w) = some (some (.int (-1)), w) := 
    (runs_stps (q' := (5, [.ref 34, .int x1], [.int (w.1 34 3), .int x1], w)) 3 rfl).trans <|
    (runs_if_t (a := 17) (b := 8) (L := [.ref 34, .int x1]) (st := []) (w := w) rfl h1).trans <|
    (runs_stps (q' := (18, [.null, .null], [.int (-1)], w)) 1 rfl).trans <|
    runs_ret rfl
theorem p_X9_byteAt_0F_R {ex : Ex} {x1 : Int32} {w : Wd} (h1 : ¬ (w.1 34 3) ≤ x1) (h2 : vp_in x1 300) : runs (T_X9_byteAt ex) (0, [.ref 34, .int x1], [], w) = some (some (.int (w.1 35 x1.toNatClampNeg)), w) := 
    (runs_stps (q' := (5, [.ref 34, .int x1], [.int (w.1 34 3), .int x1], w)) 3 rfl).trans <|
    (runs_if_f (a := 17) (b := 8) (L := [.ref 34, .int x1]) (st := []) (w := w) rfl h1).trans <|
    (runs_stps (q' := (13, [.ref 34, .int x1], [.int x1, .ref 35], w)) 3 rfl).trans <|
    (runs_ck (q' := (14, [.ref 34, .int x1], [.int (w.1 35 x1.toNatClampNeg)], w)) rfl h2).trans <|
    (runs_stps (q' := (18, [.ref 34, .int x1], [.int (w.1 35 x1.toNatClampNeg)], w)) 1 rfl).trans <|
    runs_ret rfl
theorem p_X9_add_0T_R {ex : Ex} {x0 : Int64} {x2 : Int32} {w : Wd} (h1 : ¬ x2 = 0) : runs (T_X9_add ex) (0, [.long x0, .null, .int x2], [], w) = some (some (.long ((256 * x0) + x2.toInt64)), w) := 
    (runs_stps (q' := (1, [.long x0, .null, .int x2], [.int x2], w)) 1 rfl).trans <|
    (runs_if_f (a := 4) (b := 8) (L := [.long x0, .null, .int x2]) (st := []) (w := w) rfl h1).trans <|
    (runs_stps (q' := (16, [.long x0, .null, .int x2], [.long ((256 * x0) + x2.toInt64)], w)) 6 rfl).trans <|
    runs_ret rfl
theorem p_X9_add_0F_R {ex : Ex} {x0 : Int64} {x2 : Int32} {w : Wd} (h1 : x2 = 0) : runs (T_X9_add ex) (0, [.long x0, .null, .int x2], [], w) = some (some (.long x0), w) := 
    (runs_stps (q' := (1, [.long x0, .null, .int x2], [.int x2], w)) 1 rfl).trans <|
    (runs_if_t (a := 4) (b := 8) (L := [.long x0, .null, .int x2]) (st := []) (w := w) rfl h1).trans <|
    (runs_stps (q' := (16, [.long x0, .null, .int x2], [.long x0], w)) 2 rfl).trans <|
    runs_ret rfl
theorem p_X9_named_0_R {ex : Ex} {x0 : Int32} {x1 : Int32} {x2 : Int32} {x3 : Int32} {x4 : Int32} {r1 : Int64} {w1 : Wd} {r2 : Int64} {w2 : Wd} {r3 : Int64} {w3 : Wd} {r4 : Int64} {w4 : Wd} {r5 : Int64} {w5 : Wd} {w : Wd} (h1 : ex 140 [.long 0, .int x0] w = some (some (.long r1), w1)) (h2 : ex 140 [.long r1, .int x1] w1 = some (some (.long r2), w2)) (h3 : ex 140 [.long r2, .int x2] w2 = some (some (.long r3), w3)) (h4 : ex 140 [.long r3, .int x3] w3 = some (some (.long r4), w4)) (h5 : ex 140 [.long r4, .int x4] w4 = some (some (.long r5), w5)) : runs (T_X9_named ex) (0, [.int x0, .int x1, .int x2, .int x3, .int x4], [], w) = some (some (.long r5), w5) := 
    (runs_stps (q' := (2, [.int x0, .int x1, .int x2, .int x3, .int x4], [.int x0, .long 0], w)) 2 rfl).trans <|
    (runs_callS (rv := some (.long r1)) (w' := w1) rfl rfl rfl h1).trans <|
    (runs_stps (q' := (6, [.int x0, .int x1, .int x2, .int x3, .int x4], [.int x1, .long r1], w1)) 1 rfl).trans <|
    (runs_callS (rv := some (.long r2)) (w' := w2) rfl rfl rfl h2).trans <|
    (runs_stps (q' := (10, [.int x0, .int x1, .int x2, .int x3, .int x4], [.int x2, .long r2], w2)) 1 rfl).trans <|
    (runs_callS (rv := some (.long r3)) (w' := w3) rfl rfl rfl h3).trans <|
    (runs_stps (q' := (14, [.int x0, .int x1, .int x2, .int x3, .int x4], [.int x3, .long r3], w3)) 1 rfl).trans <|
    (runs_callS (rv := some (.long r4)) (w' := w4) rfl rfl rfl h4).trans <|
    (runs_stps (q' := (19, [.int x0, .int x1, .int x2, .int x3, .int x4], [.int x4, .long r4], w4)) 1 rfl).trans <|
    (runs_callS (rv := some (.long r5)) (w' := w5) rfl rfl rfl h5).trans <|
    runs_ret rfl
theorem p_X9_wordOf_0TTTTTT_R {ex : Ex} {x0 : Int64} {r1 : Int64} {w1 : Wd} {r2 : Int64} {w2 : Wd} {r3 : Int64} {w3 : Wd} {r4 : Int64} {w4 : Wd} {r5 : Int64} {w5 : Wd} {r6 : Int64} {w6 : Wd} {w : Wd} (h1 : ex 141 [.int 115, .int 112, .int 101, .int 108, .int 108] w = some (some (.long r1), w1)) (h2 : ¬ (lg_cmp x0 r1) = 0) (h3 : ex 141 [.int 116, .int 104, .int 105, .int 110, .int 103] w1 = some (some (.long r2), w2)) (h4 : ¬ (lg_cmp x0 r2) = 0) (h5 : ex 141 [.int 112, .int 117, .int 112, .int 105, .int 108] w2 = some (some (.long r3), w3)) (h6 : ¬ (lg_cmp x0 r3) = 0) (h7 : ex 141 [.int 115, .int 119, .int 97, .int 112, .int 0] w3 = some (some (.long r4), w4)) (h8 : ¬ (lg_cmp x0 r4) = 0) (h9 : ex 141 [.int 99, .int 111, .int 112, .int 121, .int 0] w4 = some (some (.long r5), w5)) (h10 : ¬ (lg_cmp x0 r5) = 0) (h11 : ex 141 [.int 104, .int 117, .int 109, .int 0, .int 0] w5 = some (some (.long r6), w6)) (h12 : ¬ (lg_cmp x0 r6) = 0) : runs (T_X9_wordOf ex) (0, [.long x0, .null, .null, .null], [], w) = some (some (.int (-9)), w6) := 
    (runs_stps (q' := (11, [.long x0, .null, .null, .null], [.int 108, .int 108, .int 101, .int 112, .int 115, .long x0], w)) 6 rfl).trans <|
    (runs_callS (rv := some (.long r1)) (w' := w1) rfl rfl rfl h1).trans <|
    (runs_stps (q' := (15, [.long x0, .null, .null, .null], [.int (lg_cmp x0 r1)], w1)) 1 rfl).trans <|
    (runs_if_f (a := 18) (b := 22) (L := [.long x0, .null, .null, .null]) (st := []) (w := w1) rfl h2).trans <|
    (runs_stps (q' := (33, [.long x0, .null, .null, .null], [.int 103, .int 110, .int 105, .int 104, .int 116, .long x0], w1)) 6 rfl).trans <|
    (runs_callS (rv := some (.long r2)) (w' := w2) rfl rfl rfl h3).trans <|
    (runs_stps (q' := (37, [.long x0, .null, .null, .null], [.int (lg_cmp x0 r2)], w2)) 1 rfl).trans <|
    (runs_if_f (a := 40) (b := 44) (L := [.long x0, .null, .null, .null]) (st := []) (w := w2) rfl h4).trans <|
    (runs_stps (q' := (55, [.long x0, .null, .null, .null], [.int 108, .int 105, .int 112, .int 117, .int 112, .long x0], w2)) 6 rfl).trans <|
    (runs_callS (rv := some (.long r3)) (w' := w3) rfl rfl rfl h5).trans <|
    (runs_stps (q' := (59, [.long x0, .null, .null, .null], [.int (lg_cmp x0 r3)], w3)) 1 rfl).trans <|
    (runs_if_f (a := 62) (b := 66) (L := [.long x0, .null, .null, .null]) (st := []) (w := w3) rfl h6).trans <|
    (runs_stps (q' := (79, [.long x0, .null, .int (-9), .null], [.int 0, .int 112, .int 97, .int 119, .int 115, .long x0], w3)) 8 rfl).trans <|
    (runs_callS (rv := some (.long r4)) (w' := w4) rfl rfl rfl h7).trans <|
    (runs_stps (q' := (83, [.long x0, .null, .int (-9), .null], [.int (lg_cmp x0 r4)], w4)) 1 rfl).trans <|
    (runs_if_f (a := 86) (b := 90) (L := [.long x0, .null, .int (-9), .null]) (st := []) (w := w4) rfl h8).trans <|
    (runs_stps (q' := (100, [.long x0, .null, .int (-9), .null], [.int 0, .int 121, .int 112, .int 111, .int 99, .long x0], w4)) 6 rfl).trans <|
    (runs_callS (rv := some (.long r5)) (w' := w5) rfl rfl rfl h9).trans <|
    (runs_stps (q' := (104, [.long x0, .null, .int (-9), .null], [.int (lg_cmp x0 r5)], w5)) 1 rfl).trans <|
    (runs_if_f (a := 107) (b := 111) (L := [.long x0, .null, .int (-9), .null]) (st := []) (w := w5) rfl h10).trans <|
    (runs_stps (q' := (122, [.long x0, .null, .null, .int (-9)], [.int 0, .int 0, .int 109, .int 117, .int 104, .long x0], w5)) 8 rfl).trans <|
    (runs_callS (rv := some (.long r6)) (w' := w6) rfl rfl rfl h11).trans <|
    (runs_stps (q' := (126, [.long x0, .null, .null, .int (-9)], [.int (lg_cmp x0 r6)], w6)) 1 rfl).trans <|
    (runs_if_f (a := 129) (b := 133) (L := [.long x0, .null, .null, .int (-9)]) (st := []) (w := w6) rfl h12).trans <|
    (runs_stps (q' := (134, [.null, .null, .null, .int (-9)], [.int (-9)], w6)) 1 rfl).trans <|
    runs_ret rfl
theorem p_X9_wordOf_0TTTTTF_R {ex : Ex} {x0 : Int64} {r1 : Int64} {w1 : Wd} {r2 : Int64} {w2 : Wd} {r3 : Int64} {w3 : Wd} {r4 : Int64} {w4 : Wd} {r5 : Int64} {w5 : Wd} {r6 : Int64} {w6 : Wd} {w : Wd} (h1 : ex 141 [.int 115, .int 112, .int 101, .int 108, .int 108] w = some (some (.long r1), w1)) (h2 : ¬ (lg_cmp x0 r1) = 0) (h3 : ex 141 [.int 116, .int 104, .int 105, .int 110, .int 103] w1 = some (some (.long r2), w2)) (h4 : ¬ (lg_cmp x0 r2) = 0) (h5 : ex 141 [.int 112, .int 117, .int 112, .int 105, .int 108] w2 = some (some (.long r3), w3)) (h6 : ¬ (lg_cmp x0 r3) = 0) (h7 : ex 141 [.int 115, .int 119, .int 97, .int 112, .int 0] w3 = some (some (.long r4), w4)) (h8 : ¬ (lg_cmp x0 r4) = 0) (h9 : ex 141 [.int 99, .int 111, .int 112, .int 121, .int 0] w4 = some (some (.long r5), w5)) (h10 : ¬ (lg_cmp x0 r5) = 0) (h11 : ex 141 [.int 104, .int 117, .int 109, .int 0, .int 0] w5 = some (some (.long r6), w6)) (h12 : (lg_cmp x0 r6) = 0) : runs (T_X9_wordOf ex) (0, [.long x0, .null, .null, .null], [], w) = some (some (.int 5), w6) := 
    (runs_stps (q' := (11, [.long x0, .null, .null, .null], [.int 108, .int 108, .int 101, .int 112, .int 115, .long x0], w)) 6 rfl).trans <|
    (runs_callS (rv := some (.long r1)) (w' := w1) rfl rfl rfl h1).trans <|
    (runs_stps (q' := (15, [.long x0, .null, .null, .null], [.int (lg_cmp x0 r1)], w1)) 1 rfl).trans <|
    (runs_if_f (a := 18) (b := 22) (L := [.long x0, .null, .null, .null]) (st := []) (w := w1) rfl h2).trans <|
    (runs_stps (q' := (33, [.long x0, .null, .null, .null], [.int 103, .int 110, .int 105, .int 104, .int 116, .long x0], w1)) 6 rfl).trans <|
    (runs_callS (rv := some (.long r2)) (w' := w2) rfl rfl rfl h3).trans <|
    (runs_stps (q' := (37, [.long x0, .null, .null, .null], [.int (lg_cmp x0 r2)], w2)) 1 rfl).trans <|
    (runs_if_f (a := 40) (b := 44) (L := [.long x0, .null, .null, .null]) (st := []) (w := w2) rfl h4).trans <|
    (runs_stps (q' := (55, [.long x0, .null, .null, .null], [.int 108, .int 105, .int 112, .int 117, .int 112, .long x0], w2)) 6 rfl).trans <|
    (runs_callS (rv := some (.long r3)) (w' := w3) rfl rfl rfl h5).trans <|
    (runs_stps (q' := (59, [.long x0, .null, .null, .null], [.int (lg_cmp x0 r3)], w3)) 1 rfl).trans <|
    (runs_if_f (a := 62) (b := 66) (L := [.long x0, .null, .null, .null]) (st := []) (w := w3) rfl h6).trans <|
    (runs_stps (q' := (79, [.long x0, .null, .int (-9), .null], [.int 0, .int 112, .int 97, .int 119, .int 115, .long x0], w3)) 8 rfl).trans <|
    (runs_callS (rv := some (.long r4)) (w' := w4) rfl rfl rfl h7).trans <|
    (runs_stps (q' := (83, [.long x0, .null, .int (-9), .null], [.int (lg_cmp x0 r4)], w4)) 1 rfl).trans <|
    (runs_if_f (a := 86) (b := 90) (L := [.long x0, .null, .int (-9), .null]) (st := []) (w := w4) rfl h8).trans <|
    (runs_stps (q' := (100, [.long x0, .null, .int (-9), .null], [.int 0, .int 121, .int 112, .int 111, .int 99, .long x0], w4)) 6 rfl).trans <|
    (runs_callS (rv := some (.long r5)) (w' := w5) rfl rfl rfl h9).trans <|
    (runs_stps (q' := (104, [.long x0, .null, .int (-9), .null], [.int (lg_cmp x0 r5)], w5)) 1 rfl).trans <|
    (runs_if_f (a := 107) (b := 111) (L := [.long x0, .null, .int (-9), .null]) (st := []) (w := w5) rfl h10).trans <|
    (runs_stps (q' := (122, [.long x0, .null, .null, .int (-9)], [.int 0, .int 0, .int 109, .int 117, .int 104, .long x0], w5)) 8 rfl).trans <|
    (runs_callS (rv := some (.long r6)) (w' := w6) rfl rfl rfl h11).trans <|
    (runs_stps (q' := (126, [.long x0, .null, .null, .int (-9)], [.int (lg_cmp x0 r6)], w6)) 1 rfl).trans <|
    (runs_if_t (a := 129) (b := 133) (L := [.long x0, .null, .null, .int (-9)]) (st := []) (w := w6) rfl h12).trans <|
    (runs_stps (q' := (134, [.long x0, .null, .null, .int (-9)], [.int 5], w6)) 2 rfl).trans <|
    runs_ret rfl
theorem p_X9_wordOf_0TTTTFT_R {ex : Ex} {x0 : Int64} {r1 : Int64} {w1 : Wd} {r2 : Int64} {w2 : Wd} {r3 : Int64} {w3 : Wd} {r4 : Int64} {w4 : Wd} {r5 : Int64} {w5 : Wd} {r6 : Int64} {w6 : Wd} {w : Wd} (h1 : ex 141 [.int 115, .int 112, .int 101, .int 108, .int 108] w = some (some (.long r1), w1)) (h2 : ¬ (lg_cmp x0 r1) = 0) (h3 : ex 141 [.int 116, .int 104, .int 105, .int 110, .int 103] w1 = some (some (.long r2), w2)) (h4 : ¬ (lg_cmp x0 r2) = 0) (h5 : ex 141 [.int 112, .int 117, .int 112, .int 105, .int 108] w2 = some (some (.long r3), w3)) (h6 : ¬ (lg_cmp x0 r3) = 0) (h7 : ex 141 [.int 115, .int 119, .int 97, .int 112, .int 0] w3 = some (some (.long r4), w4)) (h8 : ¬ (lg_cmp x0 r4) = 0) (h9 : ex 141 [.int 99, .int 111, .int 112, .int 121, .int 0] w4 = some (some (.long r5), w5)) (h10 : (lg_cmp x0 r5) = 0) (h11 : ex 141 [.int 104, .int 117, .int 109, .int 0, .int 0] w5 = some (some (.long r6), w6)) (h12 : ¬ (lg_cmp x0 r6) = 0) : runs (T_X9_wordOf ex) (0, [.long x0, .null, .null, .null], [], w) = some (some (.int 4), w6) := 
    (runs_stps (q' := (11, [.long x0, .null, .null, .null], [.int 108, .int 108, .int 101, .int 112, .int 115, .long x0], w)) 6 rfl).trans <|
    (runs_callS (rv := some (.long r1)) (w' := w1) rfl rfl rfl h1).trans <|
    (runs_stps (q' := (15, [.long x0, .null, .null, .null], [.int (lg_cmp x0 r1)], w1)) 1 rfl).trans <|
    (runs_if_f (a := 18) (b := 22) (L := [.long x0, .null, .null, .null]) (st := []) (w := w1) rfl h2).trans <|
    (runs_stps (q' := (33, [.long x0, .null, .null, .null], [.int 103, .int 110, .int 105, .int 104, .int 116, .long x0], w1)) 6 rfl).trans <|
    (runs_callS (rv := some (.long r2)) (w' := w2) rfl rfl rfl h3).trans <|
    (runs_stps (q' := (37, [.long x0, .null, .null, .null], [.int (lg_cmp x0 r2)], w2)) 1 rfl).trans <|
    (runs_if_f (a := 40) (b := 44) (L := [.long x0, .null, .null, .null]) (st := []) (w := w2) rfl h4).trans <|
    (runs_stps (q' := (55, [.long x0, .null, .null, .null], [.int 108, .int 105, .int 112, .int 117, .int 112, .long x0], w2)) 6 rfl).trans <|
    (runs_callS (rv := some (.long r3)) (w' := w3) rfl rfl rfl h5).trans <|
    (runs_stps (q' := (59, [.long x0, .null, .null, .null], [.int (lg_cmp x0 r3)], w3)) 1 rfl).trans <|
    (runs_if_f (a := 62) (b := 66) (L := [.long x0, .null, .null, .null]) (st := []) (w := w3) rfl h6).trans <|
    (runs_stps (q' := (79, [.long x0, .null, .int (-9), .null], [.int 0, .int 112, .int 97, .int 119, .int 115, .long x0], w3)) 8 rfl).trans <|
    (runs_callS (rv := some (.long r4)) (w' := w4) rfl rfl rfl h7).trans <|
    (runs_stps (q' := (83, [.long x0, .null, .int (-9), .null], [.int (lg_cmp x0 r4)], w4)) 1 rfl).trans <|
    (runs_if_f (a := 86) (b := 90) (L := [.long x0, .null, .int (-9), .null]) (st := []) (w := w4) rfl h8).trans <|
    (runs_stps (q' := (100, [.long x0, .null, .int (-9), .null], [.int 0, .int 121, .int 112, .int 111, .int 99, .long x0], w4)) 6 rfl).trans <|
    (runs_callS (rv := some (.long r5)) (w' := w5) rfl rfl rfl h9).trans <|
    (runs_stps (q' := (104, [.long x0, .null, .int (-9), .null], [.int (lg_cmp x0 r5)], w5)) 1 rfl).trans <|
    (runs_if_t (a := 107) (b := 111) (L := [.long x0, .null, .int (-9), .null]) (st := []) (w := w5) rfl h10).trans <|
    (runs_stps (q' := (122, [.long x0, .null, .null, .int 4], [.int 0, .int 0, .int 109, .int 117, .int 104, .long x0], w5)) 9 rfl).trans <|
    (runs_callS (rv := some (.long r6)) (w' := w6) rfl rfl rfl h11).trans <|
    (runs_stps (q' := (126, [.long x0, .null, .null, .int 4], [.int (lg_cmp x0 r6)], w6)) 1 rfl).trans <|
    (runs_if_f (a := 129) (b := 133) (L := [.long x0, .null, .null, .int 4]) (st := []) (w := w6) rfl h12).trans <|
    (runs_stps (q' := (134, [.null, .null, .null, .int 4], [.int 4], w6)) 1 rfl).trans <|
    runs_ret rfl
theorem p_X9_wordOf_0TTTTFF_R {ex : Ex} {x0 : Int64} {r1 : Int64} {w1 : Wd} {r2 : Int64} {w2 : Wd} {r3 : Int64} {w3 : Wd} {r4 : Int64} {w4 : Wd} {r5 : Int64} {w5 : Wd} {r6 : Int64} {w6 : Wd} {w : Wd} (h1 : ex 141 [.int 115, .int 112, .int 101, .int 108, .int 108] w = some (some (.long r1), w1)) (h2 : ¬ (lg_cmp x0 r1) = 0) (h3 : ex 141 [.int 116, .int 104, .int 105, .int 110, .int 103] w1 = some (some (.long r2), w2)) (h4 : ¬ (lg_cmp x0 r2) = 0) (h5 : ex 141 [.int 112, .int 117, .int 112, .int 105, .int 108] w2 = some (some (.long r3), w3)) (h6 : ¬ (lg_cmp x0 r3) = 0) (h7 : ex 141 [.int 115, .int 119, .int 97, .int 112, .int 0] w3 = some (some (.long r4), w4)) (h8 : ¬ (lg_cmp x0 r4) = 0) (h9 : ex 141 [.int 99, .int 111, .int 112, .int 121, .int 0] w4 = some (some (.long r5), w5)) (h10 : (lg_cmp x0 r5) = 0) (h11 : ex 141 [.int 104, .int 117, .int 109, .int 0, .int 0] w5 = some (some (.long r6), w6)) (h12 : (lg_cmp x0 r6) = 0) : runs (T_X9_wordOf ex) (0, [.long x0, .null, .null, .null], [], w) = some (some (.int 5), w6) := 
    (runs_stps (q' := (11, [.long x0, .null, .null, .null], [.int 108, .int 108, .int 101, .int 112, .int 115, .long x0], w)) 6 rfl).trans <|
    (runs_callS (rv := some (.long r1)) (w' := w1) rfl rfl rfl h1).trans <|
    (runs_stps (q' := (15, [.long x0, .null, .null, .null], [.int (lg_cmp x0 r1)], w1)) 1 rfl).trans <|
    (runs_if_f (a := 18) (b := 22) (L := [.long x0, .null, .null, .null]) (st := []) (w := w1) rfl h2).trans <|
    (runs_stps (q' := (33, [.long x0, .null, .null, .null], [.int 103, .int 110, .int 105, .int 104, .int 116, .long x0], w1)) 6 rfl).trans <|
    (runs_callS (rv := some (.long r2)) (w' := w2) rfl rfl rfl h3).trans <|
    (runs_stps (q' := (37, [.long x0, .null, .null, .null], [.int (lg_cmp x0 r2)], w2)) 1 rfl).trans <|
    (runs_if_f (a := 40) (b := 44) (L := [.long x0, .null, .null, .null]) (st := []) (w := w2) rfl h4).trans <|
    (runs_stps (q' := (55, [.long x0, .null, .null, .null], [.int 108, .int 105, .int 112, .int 117, .int 112, .long x0], w2)) 6 rfl).trans <|
    (runs_callS (rv := some (.long r3)) (w' := w3) rfl rfl rfl h5).trans <|
    (runs_stps (q' := (59, [.long x0, .null, .null, .null], [.int (lg_cmp x0 r3)], w3)) 1 rfl).trans <|
    (runs_if_f (a := 62) (b := 66) (L := [.long x0, .null, .null, .null]) (st := []) (w := w3) rfl h6).trans <|
    (runs_stps (q' := (79, [.long x0, .null, .int (-9), .null], [.int 0, .int 112, .int 97, .int 119, .int 115, .long x0], w3)) 8 rfl).trans <|
    (runs_callS (rv := some (.long r4)) (w' := w4) rfl rfl rfl h7).trans <|
    (runs_stps (q' := (83, [.long x0, .null, .int (-9), .null], [.int (lg_cmp x0 r4)], w4)) 1 rfl).trans <|
    (runs_if_f (a := 86) (b := 90) (L := [.long x0, .null, .int (-9), .null]) (st := []) (w := w4) rfl h8).trans <|
    (runs_stps (q' := (100, [.long x0, .null, .int (-9), .null], [.int 0, .int 121, .int 112, .int 111, .int 99, .long x0], w4)) 6 rfl).trans <|
    (runs_callS (rv := some (.long r5)) (w' := w5) rfl rfl rfl h9).trans <|
    (runs_stps (q' := (104, [.long x0, .null, .int (-9), .null], [.int (lg_cmp x0 r5)], w5)) 1 rfl).trans <|
    (runs_if_t (a := 107) (b := 111) (L := [.long x0, .null, .int (-9), .null]) (st := []) (w := w5) rfl h10).trans <|
    (runs_stps (q' := (122, [.long x0, .null, .null, .int 4], [.int 0, .int 0, .int 109, .int 117, .int 104, .long x0], w5)) 9 rfl).trans <|
    (runs_callS (rv := some (.long r6)) (w' := w6) rfl rfl rfl h11).trans <|
    (runs_stps (q' := (126, [.long x0, .null, .null, .int 4], [.int (lg_cmp x0 r6)], w6)) 1 rfl).trans <|
    (runs_if_t (a := 129) (b := 133) (L := [.long x0, .null, .null, .int 4]) (st := []) (w := w6) rfl h12).trans <|
    (runs_stps (q' := (134, [.long x0, .null, .null, .int 4], [.int 5], w6)) 2 rfl).trans <|
    runs_ret rfl
theorem p_X9_wordOf_0TTTFT_R {ex : Ex} {x0 : Int64} {r1 : Int64} {w1 : Wd} {r2 : Int64} {w2 : Wd} {r3 : Int64} {w3 : Wd} {r4 : Int64} {w4 : Wd} {r5 : Int64} {w5 : Wd} {w : Wd} (h1 : ex 141 [.int 115, .int 112, .int 101, .int 108, .int 108] w = some (some (.long r1), w1)) (h2 : ¬ (lg_cmp x0 r1) = 0) (h3 : ex 141 [.int 116, .int 104, .int 105, .int 110, .int 103] w1 = some (some (.long r2), w2)) (h4 : ¬ (lg_cmp x0 r2) = 0) (h5 : ex 141 [.int 112, .int 117, .int 112, .int 105, .int 108] w2 = some (some (.long r3), w3)) (h6 : ¬ (lg_cmp x0 r3) = 0) (h7 : ex 141 [.int 115, .int 119, .int 97, .int 112, .int 0] w3 = some (some (.long r4), w4)) (h8 : (lg_cmp x0 r4) = 0) (h9 : ex 141 [.int 104, .int 117, .int 109, .int 0, .int 0] w4 = some (some (.long r5), w5)) (h10 : ¬ (lg_cmp x0 r5) = 0) : runs (T_X9_wordOf ex) (0, [.long x0, .null, .null, .null], [], w) = some (some (.int 3), w5) := 
    (runs_stps (q' := (11, [.long x0, .null, .null, .null], [.int 108, .int 108, .int 101, .int 112, .int 115, .long x0], w)) 6 rfl).trans <|
    (runs_callS (rv := some (.long r1)) (w' := w1) rfl rfl rfl h1).trans <|
    (runs_stps (q' := (15, [.long x0, .null, .null, .null], [.int (lg_cmp x0 r1)], w1)) 1 rfl).trans <|
    (runs_if_f (a := 18) (b := 22) (L := [.long x0, .null, .null, .null]) (st := []) (w := w1) rfl h2).trans <|
    (runs_stps (q' := (33, [.long x0, .null, .null, .null], [.int 103, .int 110, .int 105, .int 104, .int 116, .long x0], w1)) 6 rfl).trans <|
    (runs_callS (rv := some (.long r2)) (w' := w2) rfl rfl rfl h3).trans <|
    (runs_stps (q' := (37, [.long x0, .null, .null, .null], [.int (lg_cmp x0 r2)], w2)) 1 rfl).trans <|
    (runs_if_f (a := 40) (b := 44) (L := [.long x0, .null, .null, .null]) (st := []) (w := w2) rfl h4).trans <|
    (runs_stps (q' := (55, [.long x0, .null, .null, .null], [.int 108, .int 105, .int 112, .int 117, .int 112, .long x0], w2)) 6 rfl).trans <|
    (runs_callS (rv := some (.long r3)) (w' := w3) rfl rfl rfl h5).trans <|
    (runs_stps (q' := (59, [.long x0, .null, .null, .null], [.int (lg_cmp x0 r3)], w3)) 1 rfl).trans <|
    (runs_if_f (a := 62) (b := 66) (L := [.long x0, .null, .null, .null]) (st := []) (w := w3) rfl h6).trans <|
    (runs_stps (q' := (79, [.long x0, .null, .int (-9), .null], [.int 0, .int 112, .int 97, .int 119, .int 115, .long x0], w3)) 8 rfl).trans <|
    (runs_callS (rv := some (.long r4)) (w' := w4) rfl rfl rfl h7).trans <|
    (runs_stps (q' := (83, [.long x0, .null, .int (-9), .null], [.int (lg_cmp x0 r4)], w4)) 1 rfl).trans <|
    (runs_if_t (a := 86) (b := 90) (L := [.long x0, .null, .int (-9), .null]) (st := []) (w := w4) rfl h8).trans <|
    (runs_stps (q' := (122, [.long x0, .null, .null, .int 3], [.int 0, .int 0, .int 109, .int 117, .int 104, .long x0], w4)) 9 rfl).trans <|
    (runs_callS (rv := some (.long r5)) (w' := w5) rfl rfl rfl h9).trans <|
    (runs_stps (q' := (126, [.long x0, .null, .null, .int 3], [.int (lg_cmp x0 r5)], w5)) 1 rfl).trans <|
    (runs_if_f (a := 129) (b := 133) (L := [.long x0, .null, .null, .int 3]) (st := []) (w := w5) rfl h10).trans <|
    (runs_stps (q' := (134, [.null, .null, .null, .int 3], [.int 3], w5)) 1 rfl).trans <|
    runs_ret rfl
theorem p_X9_wordOf_0TTTFF_R {ex : Ex} {x0 : Int64} {r1 : Int64} {w1 : Wd} {r2 : Int64} {w2 : Wd} {r3 : Int64} {w3 : Wd} {r4 : Int64} {w4 : Wd} {r5 : Int64} {w5 : Wd} {w : Wd} (h1 : ex 141 [.int 115, .int 112, .int 101, .int 108, .int 108] w = some (some (.long r1), w1)) (h2 : ¬ (lg_cmp x0 r1) = 0) (h3 : ex 141 [.int 116, .int 104, .int 105, .int 110, .int 103] w1 = some (some (.long r2), w2)) (h4 : ¬ (lg_cmp x0 r2) = 0) (h5 : ex 141 [.int 112, .int 117, .int 112, .int 105, .int 108] w2 = some (some (.long r3), w3)) (h6 : ¬ (lg_cmp x0 r3) = 0) (h7 : ex 141 [.int 115, .int 119, .int 97, .int 112, .int 0] w3 = some (some (.long r4), w4)) (h8 : (lg_cmp x0 r4) = 0) (h9 : ex 141 [.int 104, .int 117, .int 109, .int 0, .int 0] w4 = some (some (.long r5), w5)) (h10 : (lg_cmp x0 r5) = 0) : runs (T_X9_wordOf ex) (0, [.long x0, .null, .null, .null], [], w) = some (some (.int 5), w5) := 
    (runs_stps (q' := (11, [.long x0, .null, .null, .null], [.int 108, .int 108, .int 101, .int 112, .int 115, .long x0], w)) 6 rfl).trans <|
    (runs_callS (rv := some (.long r1)) (w' := w1) rfl rfl rfl h1).trans <|
    (runs_stps (q' := (15, [.long x0, .null, .null, .null], [.int (lg_cmp x0 r1)], w1)) 1 rfl).trans <|
    (runs_if_f (a := 18) (b := 22) (L := [.long x0, .null, .null, .null]) (st := []) (w := w1) rfl h2).trans <|
    (runs_stps (q' := (33, [.long x0, .null, .null, .null], [.int 103, .int 110, .int 105, .int 104, .int 116, .long x0], w1)) 6 rfl).trans <|
    (runs_callS (rv := some (.long r2)) (w' := w2) rfl rfl rfl h3).trans <|
    (runs_stps (q' := (37, [.long x0, .null, .null, .null], [.int (lg_cmp x0 r2)], w2)) 1 rfl).trans <|
    (runs_if_f (a := 40) (b := 44) (L := [.long x0, .null, .null, .null]) (st := []) (w := w2) rfl h4).trans <|
    (runs_stps (q' := (55, [.long x0, .null, .null, .null], [.int 108, .int 105, .int 112, .int 117, .int 112, .long x0], w2)) 6 rfl).trans <|
    (runs_callS (rv := some (.long r3)) (w' := w3) rfl rfl rfl h5).trans <|
    (runs_stps (q' := (59, [.long x0, .null, .null, .null], [.int (lg_cmp x0 r3)], w3)) 1 rfl).trans <|
    (runs_if_f (a := 62) (b := 66) (L := [.long x0, .null, .null, .null]) (st := []) (w := w3) rfl h6).trans <|
    (runs_stps (q' := (79, [.long x0, .null, .int (-9), .null], [.int 0, .int 112, .int 97, .int 119, .int 115, .long x0], w3)) 8 rfl).trans <|
    (runs_callS (rv := some (.long r4)) (w' := w4) rfl rfl rfl h7).trans <|
    (runs_stps (q' := (83, [.long x0, .null, .int (-9), .null], [.int (lg_cmp x0 r4)], w4)) 1 rfl).trans <|
    (runs_if_t (a := 86) (b := 90) (L := [.long x0, .null, .int (-9), .null]) (st := []) (w := w4) rfl h8).trans <|
    (runs_stps (q' := (122, [.long x0, .null, .null, .int 3], [.int 0, .int 0, .int 109, .int 117, .int 104, .long x0], w4)) 9 rfl).trans <|
    (runs_callS (rv := some (.long r5)) (w' := w5) rfl rfl rfl h9).trans <|
    (runs_stps (q' := (126, [.long x0, .null, .null, .int 3], [.int (lg_cmp x0 r5)], w5)) 1 rfl).trans <|
    (runs_if_t (a := 129) (b := 133) (L := [.long x0, .null, .null, .int 3]) (st := []) (w := w5) rfl h10).trans <|
    (runs_stps (q' := (134, [.long x0, .null, .null, .int 3], [.int 5], w5)) 2 rfl).trans <|
    runs_ret rfl
theorem p_X9_wordOf_0TTFTTT_R {ex : Ex} {x0 : Int64} {r1 : Int64} {w1 : Wd} {r2 : Int64} {w2 : Wd} {r3 : Int64} {w3 : Wd} {r4 : Int64} {w4 : Wd} {r5 : Int64} {w5 : Wd} {r6 : Int64} {w6 : Wd} {w : Wd} (h1 : ex 141 [.int 115, .int 112, .int 101, .int 108, .int 108] w = some (some (.long r1), w1)) (h2 : ¬ (lg_cmp x0 r1) = 0) (h3 : ex 141 [.int 116, .int 104, .int 105, .int 110, .int 103] w1 = some (some (.long r2), w2)) (h4 : ¬ (lg_cmp x0 r2) = 0) (h5 : ex 141 [.int 112, .int 117, .int 112, .int 105, .int 108] w2 = some (some (.long r3), w3)) (h6 : (lg_cmp x0 r3) = 0) (h7 : ex 141 [.int 115, .int 119, .int 97, .int 112, .int 0] w3 = some (some (.long r4), w4)) (h8 : ¬ (lg_cmp x0 r4) = 0) (h9 : ex 141 [.int 99, .int 111, .int 112, .int 121, .int 0] w4 = some (some (.long r5), w5)) (h10 : ¬ (lg_cmp x0 r5) = 0) (h11 : ex 141 [.int 104, .int 117, .int 109, .int 0, .int 0] w5 = some (some (.long r6), w6)) (h12 : ¬ (lg_cmp x0 r6) = 0) : runs (T_X9_wordOf ex) (0, [.long x0, .null, .null, .null], [], w) = some (some (.int 2), w6) := 
    (runs_stps (q' := (11, [.long x0, .null, .null, .null], [.int 108, .int 108, .int 101, .int 112, .int 115, .long x0], w)) 6 rfl).trans <|
    (runs_callS (rv := some (.long r1)) (w' := w1) rfl rfl rfl h1).trans <|
    (runs_stps (q' := (15, [.long x0, .null, .null, .null], [.int (lg_cmp x0 r1)], w1)) 1 rfl).trans <|
    (runs_if_f (a := 18) (b := 22) (L := [.long x0, .null, .null, .null]) (st := []) (w := w1) rfl h2).trans <|
    (runs_stps (q' := (33, [.long x0, .null, .null, .null], [.int 103, .int 110, .int 105, .int 104, .int 116, .long x0], w1)) 6 rfl).trans <|
    (runs_callS (rv := some (.long r2)) (w' := w2) rfl rfl rfl h3).trans <|
    (runs_stps (q' := (37, [.long x0, .null, .null, .null], [.int (lg_cmp x0 r2)], w2)) 1 rfl).trans <|
    (runs_if_f (a := 40) (b := 44) (L := [.long x0, .null, .null, .null]) (st := []) (w := w2) rfl h4).trans <|
    (runs_stps (q' := (55, [.long x0, .null, .null, .null], [.int 108, .int 105, .int 112, .int 117, .int 112, .long x0], w2)) 6 rfl).trans <|
    (runs_callS (rv := some (.long r3)) (w' := w3) rfl rfl rfl h5).trans <|
    (runs_stps (q' := (59, [.long x0, .null, .null, .null], [.int (lg_cmp x0 r3)], w3)) 1 rfl).trans <|
    (runs_if_t (a := 62) (b := 66) (L := [.long x0, .null, .null, .null]) (st := []) (w := w3) rfl h6).trans <|
    (runs_stps (q' := (79, [.long x0, .null, .int 2, .null], [.int 0, .int 112, .int 97, .int 119, .int 115, .long x0], w3)) 9 rfl).trans <|
    (runs_callS (rv := some (.long r4)) (w' := w4) rfl rfl rfl h7).trans <|
    (runs_stps (q' := (83, [.long x0, .null, .int 2, .null], [.int (lg_cmp x0 r4)], w4)) 1 rfl).trans <|
    (runs_if_f (a := 86) (b := 90) (L := [.long x0, .null, .int 2, .null]) (st := []) (w := w4) rfl h8).trans <|
    (runs_stps (q' := (100, [.long x0, .null, .int 2, .null], [.int 0, .int 121, .int 112, .int 111, .int 99, .long x0], w4)) 6 rfl).trans <|
    (runs_callS (rv := some (.long r5)) (w' := w5) rfl rfl rfl h9).trans <|
    (runs_stps (q' := (104, [.long x0, .null, .int 2, .null], [.int (lg_cmp x0 r5)], w5)) 1 rfl).trans <|
    (runs_if_f (a := 107) (b := 111) (L := [.long x0, .null, .int 2, .null]) (st := []) (w := w5) rfl h10).trans <|
    (runs_stps (q' := (122, [.long x0, .null, .null, .int 2], [.int 0, .int 0, .int 109, .int 117, .int 104, .long x0], w5)) 8 rfl).trans <|
    (runs_callS (rv := some (.long r6)) (w' := w6) rfl rfl rfl h11).trans <|
    (runs_stps (q' := (126, [.long x0, .null, .null, .int 2], [.int (lg_cmp x0 r6)], w6)) 1 rfl).trans <|
    (runs_if_f (a := 129) (b := 133) (L := [.long x0, .null, .null, .int 2]) (st := []) (w := w6) rfl h12).trans <|
    (runs_stps (q' := (134, [.null, .null, .null, .int 2], [.int 2], w6)) 1 rfl).trans <|
    runs_ret rfl
theorem p_X9_wordOf_0TTFTTF_R {ex : Ex} {x0 : Int64} {r1 : Int64} {w1 : Wd} {r2 : Int64} {w2 : Wd} {r3 : Int64} {w3 : Wd} {r4 : Int64} {w4 : Wd} {r5 : Int64} {w5 : Wd} {r6 : Int64} {w6 : Wd} {w : Wd} (h1 : ex 141 [.int 115, .int 112, .int 101, .int 108, .int 108] w = some (some (.long r1), w1)) (h2 : ¬ (lg_cmp x0 r1) = 0) (h3 : ex 141 [.int 116, .int 104, .int 105, .int 110, .int 103] w1 = some (some (.long r2), w2)) (h4 : ¬ (lg_cmp x0 r2) = 0) (h5 : ex 141 [.int 112, .int 117, .int 112, .int 105, .int 108] w2 = some (some (.long r3), w3)) (h6 : (lg_cmp x0 r3) = 0) (h7 : ex 141 [.int 115, .int 119, .int 97, .int 112, .int 0] w3 = some (some (.long r4), w4)) (h8 : ¬ (lg_cmp x0 r4) = 0) (h9 : ex 141 [.int 99, .int 111, .int 112, .int 121, .int 0] w4 = some (some (.long r5), w5)) (h10 : ¬ (lg_cmp x0 r5) = 0) (h11 : ex 141 [.int 104, .int 117, .int 109, .int 0, .int 0] w5 = some (some (.long r6), w6)) (h12 : (lg_cmp x0 r6) = 0) : runs (T_X9_wordOf ex) (0, [.long x0, .null, .null, .null], [], w) = some (some (.int 5), w6) := 
    (runs_stps (q' := (11, [.long x0, .null, .null, .null], [.int 108, .int 108, .int 101, .int 112, .int 115, .long x0], w)) 6 rfl).trans <|
    (runs_callS (rv := some (.long r1)) (w' := w1) rfl rfl rfl h1).trans <|
    (runs_stps (q' := (15, [.long x0, .null, .null, .null], [.int (lg_cmp x0 r1)], w1)) 1 rfl).trans <|
    (runs_if_f (a := 18) (b := 22) (L := [.long x0, .null, .null, .null]) (st := []) (w := w1) rfl h2).trans <|
    (runs_stps (q' := (33, [.long x0, .null, .null, .null], [.int 103, .int 110, .int 105, .int 104, .int 116, .long x0], w1)) 6 rfl).trans <|
    (runs_callS (rv := some (.long r2)) (w' := w2) rfl rfl rfl h3).trans <|
    (runs_stps (q' := (37, [.long x0, .null, .null, .null], [.int (lg_cmp x0 r2)], w2)) 1 rfl).trans <|
    (runs_if_f (a := 40) (b := 44) (L := [.long x0, .null, .null, .null]) (st := []) (w := w2) rfl h4).trans <|
    (runs_stps (q' := (55, [.long x0, .null, .null, .null], [.int 108, .int 105, .int 112, .int 117, .int 112, .long x0], w2)) 6 rfl).trans <|
    (runs_callS (rv := some (.long r3)) (w' := w3) rfl rfl rfl h5).trans <|
    (runs_stps (q' := (59, [.long x0, .null, .null, .null], [.int (lg_cmp x0 r3)], w3)) 1 rfl).trans <|
    (runs_if_t (a := 62) (b := 66) (L := [.long x0, .null, .null, .null]) (st := []) (w := w3) rfl h6).trans <|
    (runs_stps (q' := (79, [.long x0, .null, .int 2, .null], [.int 0, .int 112, .int 97, .int 119, .int 115, .long x0], w3)) 9 rfl).trans <|
    (runs_callS (rv := some (.long r4)) (w' := w4) rfl rfl rfl h7).trans <|
    (runs_stps (q' := (83, [.long x0, .null, .int 2, .null], [.int (lg_cmp x0 r4)], w4)) 1 rfl).trans <|
    (runs_if_f (a := 86) (b := 90) (L := [.long x0, .null, .int 2, .null]) (st := []) (w := w4) rfl h8).trans <|
    (runs_stps (q' := (100, [.long x0, .null, .int 2, .null], [.int 0, .int 121, .int 112, .int 111, .int 99, .long x0], w4)) 6 rfl).trans <|
    (runs_callS (rv := some (.long r5)) (w' := w5) rfl rfl rfl h9).trans <|
    (runs_stps (q' := (104, [.long x0, .null, .int 2, .null], [.int (lg_cmp x0 r5)], w5)) 1 rfl).trans <|
    (runs_if_f (a := 107) (b := 111) (L := [.long x0, .null, .int 2, .null]) (st := []) (w := w5) rfl h10).trans <|
    (runs_stps (q' := (122, [.long x0, .null, .null, .int 2], [.int 0, .int 0, .int 109, .int 117, .int 104, .long x0], w5)) 8 rfl).trans <|
    (runs_callS (rv := some (.long r6)) (w' := w6) rfl rfl rfl h11).trans <|
    (runs_stps (q' := (126, [.long x0, .null, .null, .int 2], [.int (lg_cmp x0 r6)], w6)) 1 rfl).trans <|
    (runs_if_t (a := 129) (b := 133) (L := [.long x0, .null, .null, .int 2]) (st := []) (w := w6) rfl h12).trans <|
    (runs_stps (q' := (134, [.long x0, .null, .null, .int 2], [.int 5], w6)) 2 rfl).trans <|
    runs_ret rfl
theorem p_X9_wordOf_0TTFTFT_R {ex : Ex} {x0 : Int64} {r1 : Int64} {w1 : Wd} {r2 : Int64} {w2 : Wd} {r3 : Int64} {w3 : Wd} {r4 : Int64} {w4 : Wd} {r5 : Int64} {w5 : Wd} {r6 : Int64} {w6 : Wd} {w : Wd} (h1 : ex 141 [.int 115, .int 112, .int 101, .int 108, .int 108] w = some (some (.long r1), w1)) (h2 : ¬ (lg_cmp x0 r1) = 0) (h3 : ex 141 [.int 116, .int 104, .int 105, .int 110, .int 103] w1 = some (some (.long r2), w2)) (h4 : ¬ (lg_cmp x0 r2) = 0) (h5 : ex 141 [.int 112, .int 117, .int 112, .int 105, .int 108] w2 = some (some (.long r3), w3)) (h6 : (lg_cmp x0 r3) = 0) (h7 : ex 141 [.int 115, .int 119, .int 97, .int 112, .int 0] w3 = some (some (.long r4), w4)) (h8 : ¬ (lg_cmp x0 r4) = 0) (h9 : ex 141 [.int 99, .int 111, .int 112, .int 121, .int 0] w4 = some (some (.long r5), w5)) (h10 : (lg_cmp x0 r5) = 0) (h11 : ex 141 [.int 104, .int 117, .int 109, .int 0, .int 0] w5 = some (some (.long r6), w6)) (h12 : ¬ (lg_cmp x0 r6) = 0) : runs (T_X9_wordOf ex) (0, [.long x0, .null, .null, .null], [], w) = some (some (.int 4), w6) := 
    (runs_stps (q' := (11, [.long x0, .null, .null, .null], [.int 108, .int 108, .int 101, .int 112, .int 115, .long x0], w)) 6 rfl).trans <|
    (runs_callS (rv := some (.long r1)) (w' := w1) rfl rfl rfl h1).trans <|
    (runs_stps (q' := (15, [.long x0, .null, .null, .null], [.int (lg_cmp x0 r1)], w1)) 1 rfl).trans <|
    (runs_if_f (a := 18) (b := 22) (L := [.long x0, .null, .null, .null]) (st := []) (w := w1) rfl h2).trans <|
    (runs_stps (q' := (33, [.long x0, .null, .null, .null], [.int 103, .int 110, .int 105, .int 104, .int 116, .long x0], w1)) 6 rfl).trans <|
    (runs_callS (rv := some (.long r2)) (w' := w2) rfl rfl rfl h3).trans <|
    (runs_stps (q' := (37, [.long x0, .null, .null, .null], [.int (lg_cmp x0 r2)], w2)) 1 rfl).trans <|
    (runs_if_f (a := 40) (b := 44) (L := [.long x0, .null, .null, .null]) (st := []) (w := w2) rfl h4).trans <|
    (runs_stps (q' := (55, [.long x0, .null, .null, .null], [.int 108, .int 105, .int 112, .int 117, .int 112, .long x0], w2)) 6 rfl).trans <|
    (runs_callS (rv := some (.long r3)) (w' := w3) rfl rfl rfl h5).trans <|
    (runs_stps (q' := (59, [.long x0, .null, .null, .null], [.int (lg_cmp x0 r3)], w3)) 1 rfl).trans <|
    (runs_if_t (a := 62) (b := 66) (L := [.long x0, .null, .null, .null]) (st := []) (w := w3) rfl h6).trans <|
    (runs_stps (q' := (79, [.long x0, .null, .int 2, .null], [.int 0, .int 112, .int 97, .int 119, .int 115, .long x0], w3)) 9 rfl).trans <|
    (runs_callS (rv := some (.long r4)) (w' := w4) rfl rfl rfl h7).trans <|
    (runs_stps (q' := (83, [.long x0, .null, .int 2, .null], [.int (lg_cmp x0 r4)], w4)) 1 rfl).trans <|
    (runs_if_f (a := 86) (b := 90) (L := [.long x0, .null, .int 2, .null]) (st := []) (w := w4) rfl h8).trans <|
    (runs_stps (q' := (100, [.long x0, .null, .int 2, .null], [.int 0, .int 121, .int 112, .int 111, .int 99, .long x0], w4)) 6 rfl).trans <|
    (runs_callS (rv := some (.long r5)) (w' := w5) rfl rfl rfl h9).trans <|
    (runs_stps (q' := (104, [.long x0, .null, .int 2, .null], [.int (lg_cmp x0 r5)], w5)) 1 rfl).trans <|
    (runs_if_t (a := 107) (b := 111) (L := [.long x0, .null, .int 2, .null]) (st := []) (w := w5) rfl h10).trans <|
    (runs_stps (q' := (122, [.long x0, .null, .null, .int 4], [.int 0, .int 0, .int 109, .int 117, .int 104, .long x0], w5)) 9 rfl).trans <|
    (runs_callS (rv := some (.long r6)) (w' := w6) rfl rfl rfl h11).trans <|
    (runs_stps (q' := (126, [.long x0, .null, .null, .int 4], [.int (lg_cmp x0 r6)], w6)) 1 rfl).trans <|
    (runs_if_f (a := 129) (b := 133) (L := [.long x0, .null, .null, .int 4]) (st := []) (w := w6) rfl h12).trans <|
    (runs_stps (q' := (134, [.null, .null, .null, .int 4], [.int 4], w6)) 1 rfl).trans <|
    runs_ret rfl
theorem p_X9_wordOf_0TTFTFF_R {ex : Ex} {x0 : Int64} {r1 : Int64} {w1 : Wd} {r2 : Int64} {w2 : Wd} {r3 : Int64} {w3 : Wd} {r4 : Int64} {w4 : Wd} {r5 : Int64} {w5 : Wd} {r6 : Int64} {w6 : Wd} {w : Wd} (h1 : ex 141 [.int 115, .int 112, .int 101, .int 108, .int 108] w = some (some (.long r1), w1)) (h2 : ¬ (lg_cmp x0 r1) = 0) (h3 : ex 141 [.int 116, .int 104, .int 105, .int 110, .int 103] w1 = some (some (.long r2), w2)) (h4 : ¬ (lg_cmp x0 r2) = 0) (h5 : ex 141 [.int 112, .int 117, .int 112, .int 105, .int 108] w2 = some (some (.long r3), w3)) (h6 : (lg_cmp x0 r3) = 0) (h7 : ex 141 [.int 115, .int 119, .int 97, .int 112, .int 0] w3 = some (some (.long r4), w4)) (h8 : ¬ (lg_cmp x0 r4) = 0) (h9 : ex 141 [.int 99, .int 111, .int 112, .int 121, .int 0] w4 = some (some (.long r5), w5)) (h10 : (lg_cmp x0 r5) = 0) (h11 : ex 141 [.int 104, .int 117, .int 109, .int 0, .int 0] w5 = some (some (.long r6), w6)) (h12 : (lg_cmp x0 r6) = 0) : runs (T_X9_wordOf ex) (0, [.long x0, .null, .null, .null], [], w) = some (some (.int 5), w6) := 
    (runs_stps (q' := (11, [.long x0, .null, .null, .null], [.int 108, .int 108, .int 101, .int 112, .int 115, .long x0], w)) 6 rfl).trans <|
    (runs_callS (rv := some (.long r1)) (w' := w1) rfl rfl rfl h1).trans <|
    (runs_stps (q' := (15, [.long x0, .null, .null, .null], [.int (lg_cmp x0 r1)], w1)) 1 rfl).trans <|
    (runs_if_f (a := 18) (b := 22) (L := [.long x0, .null, .null, .null]) (st := []) (w := w1) rfl h2).trans <|
    (runs_stps (q' := (33, [.long x0, .null, .null, .null], [.int 103, .int 110, .int 105, .int 104, .int 116, .long x0], w1)) 6 rfl).trans <|
    (runs_callS (rv := some (.long r2)) (w' := w2) rfl rfl rfl h3).trans <|
    (runs_stps (q' := (37, [.long x0, .null, .null, .null], [.int (lg_cmp x0 r2)], w2)) 1 rfl).trans <|
    (runs_if_f (a := 40) (b := 44) (L := [.long x0, .null, .null, .null]) (st := []) (w := w2) rfl h4).trans <|
    (runs_stps (q' := (55, [.long x0, .null, .null, .null], [.int 108, .int 105, .int 112, .int 117, .int 112, .long x0], w2)) 6 rfl).trans <|
    (runs_callS (rv := some (.long r3)) (w' := w3) rfl rfl rfl h5).trans <|
    (runs_stps (q' := (59, [.long x0, .null, .null, .null], [.int (lg_cmp x0 r3)], w3)) 1 rfl).trans <|
    (runs_if_t (a := 62) (b := 66) (L := [.long x0, .null, .null, .null]) (st := []) (w := w3) rfl h6).trans <|
    (runs_stps (q' := (79, [.long x0, .null, .int 2, .null], [.int 0, .int 112, .int 97, .int 119, .int 115, .long x0], w3)) 9 rfl).trans <|
    (runs_callS (rv := some (.long r4)) (w' := w4) rfl rfl rfl h7).trans <|
    (runs_stps (q' := (83, [.long x0, .null, .int 2, .null], [.int (lg_cmp x0 r4)], w4)) 1 rfl).trans <|
    (runs_if_f (a := 86) (b := 90) (L := [.long x0, .null, .int 2, .null]) (st := []) (w := w4) rfl h8).trans <|
    (runs_stps (q' := (100, [.long x0, .null, .int 2, .null], [.int 0, .int 121, .int 112, .int 111, .int 99, .long x0], w4)) 6 rfl).trans <|
    (runs_callS (rv := some (.long r5)) (w' := w5) rfl rfl rfl h9).trans <|
    (runs_stps (q' := (104, [.long x0, .null, .int 2, .null], [.int (lg_cmp x0 r5)], w5)) 1 rfl).trans <|
    (runs_if_t (a := 107) (b := 111) (L := [.long x0, .null, .int 2, .null]) (st := []) (w := w5) rfl h10).trans <|
    (runs_stps (q' := (122, [.long x0, .null, .null, .int 4], [.int 0, .int 0, .int 109, .int 117, .int 104, .long x0], w5)) 9 rfl).trans <|
    (runs_callS (rv := some (.long r6)) (w' := w6) rfl rfl rfl h11).trans <|
    (runs_stps (q' := (126, [.long x0, .null, .null, .int 4], [.int (lg_cmp x0 r6)], w6)) 1 rfl).trans <|
    (runs_if_t (a := 129) (b := 133) (L := [.long x0, .null, .null, .int 4]) (st := []) (w := w6) rfl h12).trans <|
    (runs_stps (q' := (134, [.long x0, .null, .null, .int 4], [.int 5], w6)) 2 rfl).trans <|
    runs_ret rfl
theorem p_X9_wordOf_0TTFFT_R {ex : Ex} {x0 : Int64} {r1 : Int64} {w1 : Wd} {r2 : Int64} {w2 : Wd} {r3 : Int64} {w3 : Wd} {r4 : Int64} {w4 : Wd} {r5 : Int64} {w5 : Wd} {w : Wd} (h1 : ex 141 [.int 115, .int 112, .int 101, .int 108, .int 108] w = some (some (.long r1), w1)) (h2 : ¬ (lg_cmp x0 r1) = 0) (h3 : ex 141 [.int 116, .int 104, .int 105, .int 110, .int 103] w1 = some (some (.long r2), w2)) (h4 : ¬ (lg_cmp x0 r2) = 0) (h5 : ex 141 [.int 112, .int 117, .int 112, .int 105, .int 108] w2 = some (some (.long r3), w3)) (h6 : (lg_cmp x0 r3) = 0) (h7 : ex 141 [.int 115, .int 119, .int 97, .int 112, .int 0] w3 = some (some (.long r4), w4)) (h8 : (lg_cmp x0 r4) = 0) (h9 : ex 141 [.int 104, .int 117, .int 109, .int 0, .int 0] w4 = some (some (.long r5), w5)) (h10 : ¬ (lg_cmp x0 r5) = 0) : runs (T_X9_wordOf ex) (0, [.long x0, .null, .null, .null], [], w) = some (some (.int 3), w5) := 
    (runs_stps (q' := (11, [.long x0, .null, .null, .null], [.int 108, .int 108, .int 101, .int 112, .int 115, .long x0], w)) 6 rfl).trans <|
    (runs_callS (rv := some (.long r1)) (w' := w1) rfl rfl rfl h1).trans <|
    (runs_stps (q' := (15, [.long x0, .null, .null, .null], [.int (lg_cmp x0 r1)], w1)) 1 rfl).trans <|
    (runs_if_f (a := 18) (b := 22) (L := [.long x0, .null, .null, .null]) (st := []) (w := w1) rfl h2).trans <|
    (runs_stps (q' := (33, [.long x0, .null, .null, .null], [.int 103, .int 110, .int 105, .int 104, .int 116, .long x0], w1)) 6 rfl).trans <|
    (runs_callS (rv := some (.long r2)) (w' := w2) rfl rfl rfl h3).trans <|
    (runs_stps (q' := (37, [.long x0, .null, .null, .null], [.int (lg_cmp x0 r2)], w2)) 1 rfl).trans <|
    (runs_if_f (a := 40) (b := 44) (L := [.long x0, .null, .null, .null]) (st := []) (w := w2) rfl h4).trans <|
    (runs_stps (q' := (55, [.long x0, .null, .null, .null], [.int 108, .int 105, .int 112, .int 117, .int 112, .long x0], w2)) 6 rfl).trans <|
    (runs_callS (rv := some (.long r3)) (w' := w3) rfl rfl rfl h5).trans <|
    (runs_stps (q' := (59, [.long x0, .null, .null, .null], [.int (lg_cmp x0 r3)], w3)) 1 rfl).trans <|
    (runs_if_t (a := 62) (b := 66) (L := [.long x0, .null, .null, .null]) (st := []) (w := w3) rfl h6).trans <|
    (runs_stps (q' := (79, [.long x0, .null, .int 2, .null], [.int 0, .int 112, .int 97, .int 119, .int 115, .long x0], w3)) 9 rfl).trans <|
    (runs_callS (rv := some (.long r4)) (w' := w4) rfl rfl rfl h7).trans <|
    (runs_stps (q' := (83, [.long x0, .null, .int 2, .null], [.int (lg_cmp x0 r4)], w4)) 1 rfl).trans <|
    (runs_if_t (a := 86) (b := 90) (L := [.long x0, .null, .int 2, .null]) (st := []) (w := w4) rfl h8).trans <|
    (runs_stps (q' := (122, [.long x0, .null, .null, .int 3], [.int 0, .int 0, .int 109, .int 117, .int 104, .long x0], w4)) 9 rfl).trans <|
    (runs_callS (rv := some (.long r5)) (w' := w5) rfl rfl rfl h9).trans <|
    (runs_stps (q' := (126, [.long x0, .null, .null, .int 3], [.int (lg_cmp x0 r5)], w5)) 1 rfl).trans <|
    (runs_if_f (a := 129) (b := 133) (L := [.long x0, .null, .null, .int 3]) (st := []) (w := w5) rfl h10).trans <|
    (runs_stps (q' := (134, [.null, .null, .null, .int 3], [.int 3], w5)) 1 rfl).trans <|
    runs_ret rfl
theorem p_X9_wordOf_0TTFFF_R {ex : Ex} {x0 : Int64} {r1 : Int64} {w1 : Wd} {r2 : Int64} {w2 : Wd} {r3 : Int64} {w3 : Wd} {r4 : Int64} {w4 : Wd} {r5 : Int64} {w5 : Wd} {w : Wd} (h1 : ex 141 [.int 115, .int 112, .int 101, .int 108, .int 108] w = some (some (.long r1), w1)) (h2 : ¬ (lg_cmp x0 r1) = 0) (h3 : ex 141 [.int 116, .int 104, .int 105, .int 110, .int 103] w1 = some (some (.long r2), w2)) (h4 : ¬ (lg_cmp x0 r2) = 0) (h5 : ex 141 [.int 112, .int 117, .int 112, .int 105, .int 108] w2 = some (some (.long r3), w3)) (h6 : (lg_cmp x0 r3) = 0) (h7 : ex 141 [.int 115, .int 119, .int 97, .int 112, .int 0] w3 = some (some (.long r4), w4)) (h8 : (lg_cmp x0 r4) = 0) (h9 : ex 141 [.int 104, .int 117, .int 109, .int 0, .int 0] w4 = some (some (.long r5), w5)) (h10 : (lg_cmp x0 r5) = 0) : runs (T_X9_wordOf ex) (0, [.long x0, .null, .null, .null], [], w) = some (some (.int 5), w5) := 
    (runs_stps (q' := (11, [.long x0, .null, .null, .null], [.int 108, .int 108, .int 101, .int 112, .int 115, .long x0], w)) 6 rfl).trans <|
    (runs_callS (rv := some (.long r1)) (w' := w1) rfl rfl rfl h1).trans <|
    (runs_stps (q' := (15, [.long x0, .null, .null, .null], [.int (lg_cmp x0 r1)], w1)) 1 rfl).trans <|
    (runs_if_f (a := 18) (b := 22) (L := [.long x0, .null, .null, .null]) (st := []) (w := w1) rfl h2).trans <|
    (runs_stps (q' := (33, [.long x0, .null, .null, .null], [.int 103, .int 110, .int 105, .int 104, .int 116, .long x0], w1)) 6 rfl).trans <|
    (runs_callS (rv := some (.long r2)) (w' := w2) rfl rfl rfl h3).trans <|
    (runs_stps (q' := (37, [.long x0, .null, .null, .null], [.int (lg_cmp x0 r2)], w2)) 1 rfl).trans <|
    (runs_if_f (a := 40) (b := 44) (L := [.long x0, .null, .null, .null]) (st := []) (w := w2) rfl h4).trans <|
    (runs_stps (q' := (55, [.long x0, .null, .null, .null], [.int 108, .int 105, .int 112, .int 117, .int 112, .long x0], w2)) 6 rfl).trans <|
    (runs_callS (rv := some (.long r3)) (w' := w3) rfl rfl rfl h5).trans <|
    (runs_stps (q' := (59, [.long x0, .null, .null, .null], [.int (lg_cmp x0 r3)], w3)) 1 rfl).trans <|
    (runs_if_t (a := 62) (b := 66) (L := [.long x0, .null, .null, .null]) (st := []) (w := w3) rfl h6).trans <|
    (runs_stps (q' := (79, [.long x0, .null, .int 2, .null], [.int 0, .int 112, .int 97, .int 119, .int 115, .long x0], w3)) 9 rfl).trans <|
    (runs_callS (rv := some (.long r4)) (w' := w4) rfl rfl rfl h7).trans <|
    (runs_stps (q' := (83, [.long x0, .null, .int 2, .null], [.int (lg_cmp x0 r4)], w4)) 1 rfl).trans <|
    (runs_if_t (a := 86) (b := 90) (L := [.long x0, .null, .int 2, .null]) (st := []) (w := w4) rfl h8).trans <|
    (runs_stps (q' := (122, [.long x0, .null, .null, .int 3], [.int 0, .int 0, .int 109, .int 117, .int 104, .long x0], w4)) 9 rfl).trans <|
    (runs_callS (rv := some (.long r5)) (w' := w5) rfl rfl rfl h9).trans <|
    (runs_stps (q' := (126, [.long x0, .null, .null, .int 3], [.int (lg_cmp x0 r5)], w5)) 1 rfl).trans <|
    (runs_if_t (a := 129) (b := 133) (L := [.long x0, .null, .null, .int 3]) (st := []) (w := w5) rfl h10).trans <|
    (runs_stps (q' := (134, [.long x0, .null, .null, .int 3], [.int 5], w5)) 2 rfl).trans <|
    runs_ret rfl
theorem p_X9_wordOf_0TFTTT_R {ex : Ex} {x0 : Int64} {r1 : Int64} {w1 : Wd} {r2 : Int64} {w2 : Wd} {r3 : Int64} {w3 : Wd} {r4 : Int64} {w4 : Wd} {r5 : Int64} {w5 : Wd} {w : Wd} (h1 : ex 141 [.int 115, .int 112, .int 101, .int 108, .int 108] w = some (some (.long r1), w1)) (h2 : ¬ (lg_cmp x0 r1) = 0) (h3 : ex 141 [.int 116, .int 104, .int 105, .int 110, .int 103] w1 = some (some (.long r2), w2)) (h4 : (lg_cmp x0 r2) = 0) (h5 : ex 141 [.int 115, .int 119, .int 97, .int 112, .int 0] w2 = some (some (.long r3), w3)) (h6 : ¬ (lg_cmp x0 r3) = 0) (h7 : ex 141 [.int 99, .int 111, .int 112, .int 121, .int 0] w3 = some (some (.long r4), w4)) (h8 : ¬ (lg_cmp x0 r4) = 0) (h9 : ex 141 [.int 104, .int 117, .int 109, .int 0, .int 0] w4 = some (some (.long r5), w5)) (h10 : ¬ (lg_cmp x0 r5) = 0) : runs (T_X9_wordOf ex) (0, [.long x0, .null, .null, .null], [], w) = some (some (.int 1), w5) := 
    (runs_stps (q' := (11, [.long x0, .null, .null, .null], [.int 108, .int 108, .int 101, .int 112, .int 115, .long x0], w)) 6 rfl).trans <|
    (runs_callS (rv := some (.long r1)) (w' := w1) rfl rfl rfl h1).trans <|
    (runs_stps (q' := (15, [.long x0, .null, .null, .null], [.int (lg_cmp x0 r1)], w1)) 1 rfl).trans <|
    (runs_if_f (a := 18) (b := 22) (L := [.long x0, .null, .null, .null]) (st := []) (w := w1) rfl h2).trans <|
    (runs_stps (q' := (33, [.long x0, .null, .null, .null], [.int 103, .int 110, .int 105, .int 104, .int 116, .long x0], w1)) 6 rfl).trans <|
    (runs_callS (rv := some (.long r2)) (w' := w2) rfl rfl rfl h3).trans <|
    (runs_stps (q' := (37, [.long x0, .null, .null, .null], [.int (lg_cmp x0 r2)], w2)) 1 rfl).trans <|
    (runs_if_t (a := 40) (b := 44) (L := [.long x0, .null, .null, .null]) (st := []) (w := w2) rfl h4).trans <|
    (runs_stps (q' := (79, [.long x0, .null, .int 1, .null], [.int 0, .int 112, .int 97, .int 119, .int 115, .long x0], w2)) 9 rfl).trans <|
    (runs_callS (rv := some (.long r3)) (w' := w3) rfl rfl rfl h5).trans <|
    (runs_stps (q' := (83, [.long x0, .null, .int 1, .null], [.int (lg_cmp x0 r3)], w3)) 1 rfl).trans <|
    (runs_if_f (a := 86) (b := 90) (L := [.long x0, .null, .int 1, .null]) (st := []) (w := w3) rfl h6).trans <|
    (runs_stps (q' := (100, [.long x0, .null, .int 1, .null], [.int 0, .int 121, .int 112, .int 111, .int 99, .long x0], w3)) 6 rfl).trans <|
    (runs_callS (rv := some (.long r4)) (w' := w4) rfl rfl rfl h7).trans <|
    (runs_stps (q' := (104, [.long x0, .null, .int 1, .null], [.int (lg_cmp x0 r4)], w4)) 1 rfl).trans <|
    (runs_if_f (a := 107) (b := 111) (L := [.long x0, .null, .int 1, .null]) (st := []) (w := w4) rfl h8).trans <|
    (runs_stps (q' := (122, [.long x0, .null, .null, .int 1], [.int 0, .int 0, .int 109, .int 117, .int 104, .long x0], w4)) 8 rfl).trans <|
    (runs_callS (rv := some (.long r5)) (w' := w5) rfl rfl rfl h9).trans <|
    (runs_stps (q' := (126, [.long x0, .null, .null, .int 1], [.int (lg_cmp x0 r5)], w5)) 1 rfl).trans <|
    (runs_if_f (a := 129) (b := 133) (L := [.long x0, .null, .null, .int 1]) (st := []) (w := w5) rfl h10).trans <|
    (runs_stps (q' := (134, [.null, .null, .null, .int 1], [.int 1], w5)) 1 rfl).trans <|
    runs_ret rfl
theorem p_X9_wordOf_0TFTTF_R {ex : Ex} {x0 : Int64} {r1 : Int64} {w1 : Wd} {r2 : Int64} {w2 : Wd} {r3 : Int64} {w3 : Wd} {r4 : Int64} {w4 : Wd} {r5 : Int64} {w5 : Wd} {w : Wd} (h1 : ex 141 [.int 115, .int 112, .int 101, .int 108, .int 108] w = some (some (.long r1), w1)) (h2 : ¬ (lg_cmp x0 r1) = 0) (h3 : ex 141 [.int 116, .int 104, .int 105, .int 110, .int 103] w1 = some (some (.long r2), w2)) (h4 : (lg_cmp x0 r2) = 0) (h5 : ex 141 [.int 115, .int 119, .int 97, .int 112, .int 0] w2 = some (some (.long r3), w3)) (h6 : ¬ (lg_cmp x0 r3) = 0) (h7 : ex 141 [.int 99, .int 111, .int 112, .int 121, .int 0] w3 = some (some (.long r4), w4)) (h8 : ¬ (lg_cmp x0 r4) = 0) (h9 : ex 141 [.int 104, .int 117, .int 109, .int 0, .int 0] w4 = some (some (.long r5), w5)) (h10 : (lg_cmp x0 r5) = 0) : runs (T_X9_wordOf ex) (0, [.long x0, .null, .null, .null], [], w) = some (some (.int 5), w5) := 
    (runs_stps (q' := (11, [.long x0, .null, .null, .null], [.int 108, .int 108, .int 101, .int 112, .int 115, .long x0], w)) 6 rfl).trans <|
    (runs_callS (rv := some (.long r1)) (w' := w1) rfl rfl rfl h1).trans <|
    (runs_stps (q' := (15, [.long x0, .null, .null, .null], [.int (lg_cmp x0 r1)], w1)) 1 rfl).trans <|
    (runs_if_f (a := 18) (b := 22) (L := [.long x0, .null, .null, .null]) (st := []) (w := w1) rfl h2).trans <|
    (runs_stps (q' := (33, [.long x0, .null, .null, .null], [.int 103, .int 110, .int 105, .int 104, .int 116, .long x0], w1)) 6 rfl).trans <|
    (runs_callS (rv := some (.long r2)) (w' := w2) rfl rfl rfl h3).trans <|
    (runs_stps (q' := (37, [.long x0, .null, .null, .null], [.int (lg_cmp x0 r2)], w2)) 1 rfl).trans <|
    (runs_if_t (a := 40) (b := 44) (L := [.long x0, .null, .null, .null]) (st := []) (w := w2) rfl h4).trans <|
    (runs_stps (q' := (79, [.long x0, .null, .int 1, .null], [.int 0, .int 112, .int 97, .int 119, .int 115, .long x0], w2)) 9 rfl).trans <|
    (runs_callS (rv := some (.long r3)) (w' := w3) rfl rfl rfl h5).trans <|
    (runs_stps (q' := (83, [.long x0, .null, .int 1, .null], [.int (lg_cmp x0 r3)], w3)) 1 rfl).trans <|
    (runs_if_f (a := 86) (b := 90) (L := [.long x0, .null, .int 1, .null]) (st := []) (w := w3) rfl h6).trans <|
    (runs_stps (q' := (100, [.long x0, .null, .int 1, .null], [.int 0, .int 121, .int 112, .int 111, .int 99, .long x0], w3)) 6 rfl).trans <|
    (runs_callS (rv := some (.long r4)) (w' := w4) rfl rfl rfl h7).trans <|
    (runs_stps (q' := (104, [.long x0, .null, .int 1, .null], [.int (lg_cmp x0 r4)], w4)) 1 rfl).trans <|
    (runs_if_f (a := 107) (b := 111) (L := [.long x0, .null, .int 1, .null]) (st := []) (w := w4) rfl h8).trans <|
    (runs_stps (q' := (122, [.long x0, .null, .null, .int 1], [.int 0, .int 0, .int 109, .int 117, .int 104, .long x0], w4)) 8 rfl).trans <|
    (runs_callS (rv := some (.long r5)) (w' := w5) rfl rfl rfl h9).trans <|
    (runs_stps (q' := (126, [.long x0, .null, .null, .int 1], [.int (lg_cmp x0 r5)], w5)) 1 rfl).trans <|
    (runs_if_t (a := 129) (b := 133) (L := [.long x0, .null, .null, .int 1]) (st := []) (w := w5) rfl h10).trans <|
    (runs_stps (q' := (134, [.long x0, .null, .null, .int 1], [.int 5], w5)) 2 rfl).trans <|
    runs_ret rfl
theorem p_X9_wordOf_0TFTFT_R {ex : Ex} {x0 : Int64} {r1 : Int64} {w1 : Wd} {r2 : Int64} {w2 : Wd} {r3 : Int64} {w3 : Wd} {r4 : Int64} {w4 : Wd} {r5 : Int64} {w5 : Wd} {w : Wd} (h1 : ex 141 [.int 115, .int 112, .int 101, .int 108, .int 108] w = some (some (.long r1), w1)) (h2 : ¬ (lg_cmp x0 r1) = 0) (h3 : ex 141 [.int 116, .int 104, .int 105, .int 110, .int 103] w1 = some (some (.long r2), w2)) (h4 : (lg_cmp x0 r2) = 0) (h5 : ex 141 [.int 115, .int 119, .int 97, .int 112, .int 0] w2 = some (some (.long r3), w3)) (h6 : ¬ (lg_cmp x0 r3) = 0) (h7 : ex 141 [.int 99, .int 111, .int 112, .int 121, .int 0] w3 = some (some (.long r4), w4)) (h8 : (lg_cmp x0 r4) = 0) (h9 : ex 141 [.int 104, .int 117, .int 109, .int 0, .int 0] w4 = some (some (.long r5), w5)) (h10 : ¬ (lg_cmp x0 r5) = 0) : runs (T_X9_wordOf ex) (0, [.long x0, .null, .null, .null], [], w) = some (some (.int 4), w5) := 
    (runs_stps (q' := (11, [.long x0, .null, .null, .null], [.int 108, .int 108, .int 101, .int 112, .int 115, .long x0], w)) 6 rfl).trans <|
    (runs_callS (rv := some (.long r1)) (w' := w1) rfl rfl rfl h1).trans <|
    (runs_stps (q' := (15, [.long x0, .null, .null, .null], [.int (lg_cmp x0 r1)], w1)) 1 rfl).trans <|
    (runs_if_f (a := 18) (b := 22) (L := [.long x0, .null, .null, .null]) (st := []) (w := w1) rfl h2).trans <|
    (runs_stps (q' := (33, [.long x0, .null, .null, .null], [.int 103, .int 110, .int 105, .int 104, .int 116, .long x0], w1)) 6 rfl).trans <|
    (runs_callS (rv := some (.long r2)) (w' := w2) rfl rfl rfl h3).trans <|
    (runs_stps (q' := (37, [.long x0, .null, .null, .null], [.int (lg_cmp x0 r2)], w2)) 1 rfl).trans <|
    (runs_if_t (a := 40) (b := 44) (L := [.long x0, .null, .null, .null]) (st := []) (w := w2) rfl h4).trans <|
    (runs_stps (q' := (79, [.long x0, .null, .int 1, .null], [.int 0, .int 112, .int 97, .int 119, .int 115, .long x0], w2)) 9 rfl).trans <|
    (runs_callS (rv := some (.long r3)) (w' := w3) rfl rfl rfl h5).trans <|
    (runs_stps (q' := (83, [.long x0, .null, .int 1, .null], [.int (lg_cmp x0 r3)], w3)) 1 rfl).trans <|
    (runs_if_f (a := 86) (b := 90) (L := [.long x0, .null, .int 1, .null]) (st := []) (w := w3) rfl h6).trans <|
    (runs_stps (q' := (100, [.long x0, .null, .int 1, .null], [.int 0, .int 121, .int 112, .int 111, .int 99, .long x0], w3)) 6 rfl).trans <|
    (runs_callS (rv := some (.long r4)) (w' := w4) rfl rfl rfl h7).trans <|
    (runs_stps (q' := (104, [.long x0, .null, .int 1, .null], [.int (lg_cmp x0 r4)], w4)) 1 rfl).trans <|
    (runs_if_t (a := 107) (b := 111) (L := [.long x0, .null, .int 1, .null]) (st := []) (w := w4) rfl h8).trans <|
    (runs_stps (q' := (122, [.long x0, .null, .null, .int 4], [.int 0, .int 0, .int 109, .int 117, .int 104, .long x0], w4)) 9 rfl).trans <|
    (runs_callS (rv := some (.long r5)) (w' := w5) rfl rfl rfl h9).trans <|
    (runs_stps (q' := (126, [.long x0, .null, .null, .int 4], [.int (lg_cmp x0 r5)], w5)) 1 rfl).trans <|
    (runs_if_f (a := 129) (b := 133) (L := [.long x0, .null, .null, .int 4]) (st := []) (w := w5) rfl h10).trans <|
    (runs_stps (q' := (134, [.null, .null, .null, .int 4], [.int 4], w5)) 1 rfl).trans <|
    runs_ret rfl
theorem p_X9_wordOf_0TFTFF_R {ex : Ex} {x0 : Int64} {r1 : Int64} {w1 : Wd} {r2 : Int64} {w2 : Wd} {r3 : Int64} {w3 : Wd} {r4 : Int64} {w4 : Wd} {r5 : Int64} {w5 : Wd} {w : Wd} (h1 : ex 141 [.int 115, .int 112, .int 101, .int 108, .int 108] w = some (some (.long r1), w1)) (h2 : ¬ (lg_cmp x0 r1) = 0) (h3 : ex 141 [.int 116, .int 104, .int 105, .int 110, .int 103] w1 = some (some (.long r2), w2)) (h4 : (lg_cmp x0 r2) = 0) (h5 : ex 141 [.int 115, .int 119, .int 97, .int 112, .int 0] w2 = some (some (.long r3), w3)) (h6 : ¬ (lg_cmp x0 r3) = 0) (h7 : ex 141 [.int 99, .int 111, .int 112, .int 121, .int 0] w3 = some (some (.long r4), w4)) (h8 : (lg_cmp x0 r4) = 0) (h9 : ex 141 [.int 104, .int 117, .int 109, .int 0, .int 0] w4 = some (some (.long r5), w5)) (h10 : (lg_cmp x0 r5) = 0) : runs (T_X9_wordOf ex) (0, [.long x0, .null, .null, .null], [], w) = some (some (.int 5), w5) := 
    (runs_stps (q' := (11, [.long x0, .null, .null, .null], [.int 108, .int 108, .int 101, .int 112, .int 115, .long x0], w)) 6 rfl).trans <|
    (runs_callS (rv := some (.long r1)) (w' := w1) rfl rfl rfl h1).trans <|
    (runs_stps (q' := (15, [.long x0, .null, .null, .null], [.int (lg_cmp x0 r1)], w1)) 1 rfl).trans <|
    (runs_if_f (a := 18) (b := 22) (L := [.long x0, .null, .null, .null]) (st := []) (w := w1) rfl h2).trans <|
    (runs_stps (q' := (33, [.long x0, .null, .null, .null], [.int 103, .int 110, .int 105, .int 104, .int 116, .long x0], w1)) 6 rfl).trans <|
    (runs_callS (rv := some (.long r2)) (w' := w2) rfl rfl rfl h3).trans <|
    (runs_stps (q' := (37, [.long x0, .null, .null, .null], [.int (lg_cmp x0 r2)], w2)) 1 rfl).trans <|
    (runs_if_t (a := 40) (b := 44) (L := [.long x0, .null, .null, .null]) (st := []) (w := w2) rfl h4).trans <|
    (runs_stps (q' := (79, [.long x0, .null, .int 1, .null], [.int 0, .int 112, .int 97, .int 119, .int 115, .long x0], w2)) 9 rfl).trans <|
    (runs_callS (rv := some (.long r3)) (w' := w3) rfl rfl rfl h5).trans <|
    (runs_stps (q' := (83, [.long x0, .null, .int 1, .null], [.int (lg_cmp x0 r3)], w3)) 1 rfl).trans <|
    (runs_if_f (a := 86) (b := 90) (L := [.long x0, .null, .int 1, .null]) (st := []) (w := w3) rfl h6).trans <|
    (runs_stps (q' := (100, [.long x0, .null, .int 1, .null], [.int 0, .int 121, .int 112, .int 111, .int 99, .long x0], w3)) 6 rfl).trans <|
    (runs_callS (rv := some (.long r4)) (w' := w4) rfl rfl rfl h7).trans <|
    (runs_stps (q' := (104, [.long x0, .null, .int 1, .null], [.int (lg_cmp x0 r4)], w4)) 1 rfl).trans <|
    (runs_if_t (a := 107) (b := 111) (L := [.long x0, .null, .int 1, .null]) (st := []) (w := w4) rfl h8).trans <|
    (runs_stps (q' := (122, [.long x0, .null, .null, .int 4], [.int 0, .int 0, .int 109, .int 117, .int 104, .long x0], w4)) 9 rfl).trans <|
    (runs_callS (rv := some (.long r5)) (w' := w5) rfl rfl rfl h9).trans <|
    (runs_stps (q' := (126, [.long x0, .null, .null, .int 4], [.int (lg_cmp x0 r5)], w5)) 1 rfl).trans <|
    (runs_if_t (a := 129) (b := 133) (L := [.long x0, .null, .null, .int 4]) (st := []) (w := w5) rfl h10).trans <|
    (runs_stps (q' := (134, [.long x0, .null, .null, .int 4], [.int 5], w5)) 2 rfl).trans <|
    runs_ret rfl
theorem p_X9_wordOf_0TFFT_R {ex : Ex} {x0 : Int64} {r1 : Int64} {w1 : Wd} {r2 : Int64} {w2 : Wd} {r3 : Int64} {w3 : Wd} {r4 : Int64} {w4 : Wd} {w : Wd} (h1 : ex 141 [.int 115, .int 112, .int 101, .int 108, .int 108] w = some (some (.long r1), w1)) (h2 : ¬ (lg_cmp x0 r1) = 0) (h3 : ex 141 [.int 116, .int 104, .int 105, .int 110, .int 103] w1 = some (some (.long r2), w2)) (h4 : (lg_cmp x0 r2) = 0) (h5 : ex 141 [.int 115, .int 119, .int 97, .int 112, .int 0] w2 = some (some (.long r3), w3)) (h6 : (lg_cmp x0 r3) = 0) (h7 : ex 141 [.int 104, .int 117, .int 109, .int 0, .int 0] w3 = some (some (.long r4), w4)) (h8 : ¬ (lg_cmp x0 r4) = 0) : runs (T_X9_wordOf ex) (0, [.long x0, .null, .null, .null], [], w) = some (some (.int 3), w4) := 
    (runs_stps (q' := (11, [.long x0, .null, .null, .null], [.int 108, .int 108, .int 101, .int 112, .int 115, .long x0], w)) 6 rfl).trans <|
    (runs_callS (rv := some (.long r1)) (w' := w1) rfl rfl rfl h1).trans <|
    (runs_stps (q' := (15, [.long x0, .null, .null, .null], [.int (lg_cmp x0 r1)], w1)) 1 rfl).trans <|
    (runs_if_f (a := 18) (b := 22) (L := [.long x0, .null, .null, .null]) (st := []) (w := w1) rfl h2).trans <|
    (runs_stps (q' := (33, [.long x0, .null, .null, .null], [.int 103, .int 110, .int 105, .int 104, .int 116, .long x0], w1)) 6 rfl).trans <|
    (runs_callS (rv := some (.long r2)) (w' := w2) rfl rfl rfl h3).trans <|
    (runs_stps (q' := (37, [.long x0, .null, .null, .null], [.int (lg_cmp x0 r2)], w2)) 1 rfl).trans <|
    (runs_if_t (a := 40) (b := 44) (L := [.long x0, .null, .null, .null]) (st := []) (w := w2) rfl h4).trans <|
    (runs_stps (q' := (79, [.long x0, .null, .int 1, .null], [.int 0, .int 112, .int 97, .int 119, .int 115, .long x0], w2)) 9 rfl).trans <|
    (runs_callS (rv := some (.long r3)) (w' := w3) rfl rfl rfl h5).trans <|
    (runs_stps (q' := (83, [.long x0, .null, .int 1, .null], [.int (lg_cmp x0 r3)], w3)) 1 rfl).trans <|
    (runs_if_t (a := 86) (b := 90) (L := [.long x0, .null, .int 1, .null]) (st := []) (w := w3) rfl h6).trans <|
    (runs_stps (q' := (122, [.long x0, .null, .null, .int 3], [.int 0, .int 0, .int 109, .int 117, .int 104, .long x0], w3)) 9 rfl).trans <|
    (runs_callS (rv := some (.long r4)) (w' := w4) rfl rfl rfl h7).trans <|
    (runs_stps (q' := (126, [.long x0, .null, .null, .int 3], [.int (lg_cmp x0 r4)], w4)) 1 rfl).trans <|
    (runs_if_f (a := 129) (b := 133) (L := [.long x0, .null, .null, .int 3]) (st := []) (w := w4) rfl h8).trans <|
    (runs_stps (q' := (134, [.null, .null, .null, .int 3], [.int 3], w4)) 1 rfl).trans <|
    runs_ret rfl
theorem p_X9_wordOf_0TFFF_R {ex : Ex} {x0 : Int64} {r1 : Int64} {w1 : Wd} {r2 : Int64} {w2 : Wd} {r3 : Int64} {w3 : Wd} {r4 : Int64} {w4 : Wd} {w : Wd} (h1 : ex 141 [.int 115, .int 112, .int 101, .int 108, .int 108] w = some (some (.long r1), w1)) (h2 : ¬ (lg_cmp x0 r1) = 0) (h3 : ex 141 [.int 116, .int 104, .int 105, .int 110, .int 103] w1 = some (some (.long r2), w2)) (h4 : (lg_cmp x0 r2) = 0) (h5 : ex 141 [.int 115, .int 119, .int 97, .int 112, .int 0] w2 = some (some (.long r3), w3)) (h6 : (lg_cmp x0 r3) = 0) (h7 : ex 141 [.int 104, .int 117, .int 109, .int 0, .int 0] w3 = some (some (.long r4), w4)) (h8 : (lg_cmp x0 r4) = 0) : runs (T_X9_wordOf ex) (0, [.long x0, .null, .null, .null], [], w) = some (some (.int 5), w4) := 
    (runs_stps (q' := (11, [.long x0, .null, .null, .null], [.int 108, .int 108, .int 101, .int 112, .int 115, .long x0], w)) 6 rfl).trans <|
    (runs_callS (rv := some (.long r1)) (w' := w1) rfl rfl rfl h1).trans <|
    (runs_stps (q' := (15, [.long x0, .null, .null, .null], [.int (lg_cmp x0 r1)], w1)) 1 rfl).trans <|
    (runs_if_f (a := 18) (b := 22) (L := [.long x0, .null, .null, .null]) (st := []) (w := w1) rfl h2).trans <|
    (runs_stps (q' := (33, [.long x0, .null, .null, .null], [.int 103, .int 110, .int 105, .int 104, .int 116, .long x0], w1)) 6 rfl).trans <|
    (runs_callS (rv := some (.long r2)) (w' := w2) rfl rfl rfl h3).trans <|
    (runs_stps (q' := (37, [.long x0, .null, .null, .null], [.int (lg_cmp x0 r2)], w2)) 1 rfl).trans <|
    (runs_if_t (a := 40) (b := 44) (L := [.long x0, .null, .null, .null]) (st := []) (w := w2) rfl h4).trans <|
    (runs_stps (q' := (79, [.long x0, .null, .int 1, .null], [.int 0, .int 112, .int 97, .int 119, .int 115, .long x0], w2)) 9 rfl).trans <|
    (runs_callS (rv := some (.long r3)) (w' := w3) rfl rfl rfl h5).trans <|
    (runs_stps (q' := (83, [.long x0, .null, .int 1, .null], [.int (lg_cmp x0 r3)], w3)) 1 rfl).trans <|
    (runs_if_t (a := 86) (b := 90) (L := [.long x0, .null, .int 1, .null]) (st := []) (w := w3) rfl h6).trans <|
    (runs_stps (q' := (122, [.long x0, .null, .null, .int 3], [.int 0, .int 0, .int 109, .int 117, .int 104, .long x0], w3)) 9 rfl).trans <|
    (runs_callS (rv := some (.long r4)) (w' := w4) rfl rfl rfl h7).trans <|
    (runs_stps (q' := (126, [.long x0, .null, .null, .int 3], [.int (lg_cmp x0 r4)], w4)) 1 rfl).trans <|
    (runs_if_t (a := 129) (b := 133) (L := [.long x0, .null, .null, .int 3]) (st := []) (w := w4) rfl h8).trans <|
    (runs_stps (q' := (134, [.long x0, .null, .null, .int 3], [.int 5], w4)) 2 rfl).trans <|
    runs_ret rfl
theorem p_X9_wordOf_0FTTT_R {ex : Ex} {x0 : Int64} {r1 : Int64} {w1 : Wd} {r2 : Int64} {w2 : Wd} {r3 : Int64} {w3 : Wd} {r4 : Int64} {w4 : Wd} {w : Wd} (h1 : ex 141 [.int 115, .int 112, .int 101, .int 108, .int 108] w = some (some (.long r1), w1)) (h2 : (lg_cmp x0 r1) = 0) (h3 : ex 141 [.int 115, .int 119, .int 97, .int 112, .int 0] w1 = some (some (.long r2), w2)) (h4 : ¬ (lg_cmp x0 r2) = 0) (h5 : ex 141 [.int 99, .int 111, .int 112, .int 121, .int 0] w2 = some (some (.long r3), w3)) (h6 : ¬ (lg_cmp x0 r3) = 0) (h7 : ex 141 [.int 104, .int 117, .int 109, .int 0, .int 0] w3 = some (some (.long r4), w4)) (h8 : ¬ (lg_cmp x0 r4) = 0) : runs (T_X9_wordOf ex) (0, [.long x0, .null, .null, .null], [], w) = some (some (.int 0), w4) := 
    (runs_stps (q' := (11, [.long x0, .null, .null, .null], [.int 108, .int 108, .int 101, .int 112, .int 115, .long x0], w)) 6 rfl).trans <|
    (runs_callS (rv := some (.long r1)) (w' := w1) rfl rfl rfl h1).trans <|
    (runs_stps (q' := (15, [.long x0, .null, .null, .null], [.int (lg_cmp x0 r1)], w1)) 1 rfl).trans <|
    (runs_if_t (a := 18) (b := 22) (L := [.long x0, .null, .null, .null]) (st := []) (w := w1) rfl h2).trans <|
    (runs_stps (q' := (79, [.long x0, .null, .int 0, .null], [.int 0, .int 112, .int 97, .int 119, .int 115, .long x0], w1)) 9 rfl).trans <|
    (runs_callS (rv := some (.long r2)) (w' := w2) rfl rfl rfl h3).trans <|
    (runs_stps (q' := (83, [.long x0, .null, .int 0, .null], [.int (lg_cmp x0 r2)], w2)) 1 rfl).trans <|
    (runs_if_f (a := 86) (b := 90) (L := [.long x0, .null, .int 0, .null]) (st := []) (w := w2) rfl h4).trans <|
    (runs_stps (q' := (100, [.long x0, .null, .int 0, .null], [.int 0, .int 121, .int 112, .int 111, .int 99, .long x0], w2)) 6 rfl).trans <|
    (runs_callS (rv := some (.long r3)) (w' := w3) rfl rfl rfl h5).trans <|
    (runs_stps (q' := (104, [.long x0, .null, .int 0, .null], [.int (lg_cmp x0 r3)], w3)) 1 rfl).trans <|
    (runs_if_f (a := 107) (b := 111) (L := [.long x0, .null, .int 0, .null]) (st := []) (w := w3) rfl h6).trans <|
    (runs_stps (q' := (122, [.long x0, .null, .null, .int 0], [.int 0, .int 0, .int 109, .int 117, .int 104, .long x0], w3)) 8 rfl).trans <|
    (runs_callS (rv := some (.long r4)) (w' := w4) rfl rfl rfl h7).trans <|
    (runs_stps (q' := (126, [.long x0, .null, .null, .int 0], [.int (lg_cmp x0 r4)], w4)) 1 rfl).trans <|
    (runs_if_f (a := 129) (b := 133) (L := [.long x0, .null, .null, .int 0]) (st := []) (w := w4) rfl h8).trans <|
    (runs_stps (q' := (134, [.null, .null, .null, .int 0], [.int 0], w4)) 1 rfl).trans <|
    runs_ret rfl
theorem p_X9_wordOf_0FTTF_R {ex : Ex} {x0 : Int64} {r1 : Int64} {w1 : Wd} {r2 : Int64} {w2 : Wd} {r3 : Int64} {w3 : Wd} {r4 : Int64} {w4 : Wd} {w : Wd} (h1 : ex 141 [.int 115, .int 112, .int 101, .int 108, .int 108] w = some (some (.long r1), w1)) (h2 : (lg_cmp x0 r1) = 0) (h3 : ex 141 [.int 115, .int 119, .int 97, .int 112, .int 0] w1 = some (some (.long r2), w2)) (h4 : ¬ (lg_cmp x0 r2) = 0) (h5 : ex 141 [.int 99, .int 111, .int 112, .int 121, .int 0] w2 = some (some (.long r3), w3)) (h6 : ¬ (lg_cmp x0 r3) = 0) (h7 : ex 141 [.int 104, .int 117, .int 109, .int 0, .int 0] w3 = some (some (.long r4), w4)) (h8 : (lg_cmp x0 r4) = 0) : runs (T_X9_wordOf ex) (0, [.long x0, .null, .null, .null], [], w) = some (some (.int 5), w4) := 
    (runs_stps (q' := (11, [.long x0, .null, .null, .null], [.int 108, .int 108, .int 101, .int 112, .int 115, .long x0], w)) 6 rfl).trans <|
    (runs_callS (rv := some (.long r1)) (w' := w1) rfl rfl rfl h1).trans <|
    (runs_stps (q' := (15, [.long x0, .null, .null, .null], [.int (lg_cmp x0 r1)], w1)) 1 rfl).trans <|
    (runs_if_t (a := 18) (b := 22) (L := [.long x0, .null, .null, .null]) (st := []) (w := w1) rfl h2).trans <|
    (runs_stps (q' := (79, [.long x0, .null, .int 0, .null], [.int 0, .int 112, .int 97, .int 119, .int 115, .long x0], w1)) 9 rfl).trans <|
    (runs_callS (rv := some (.long r2)) (w' := w2) rfl rfl rfl h3).trans <|
    (runs_stps (q' := (83, [.long x0, .null, .int 0, .null], [.int (lg_cmp x0 r2)], w2)) 1 rfl).trans <|
    (runs_if_f (a := 86) (b := 90) (L := [.long x0, .null, .int 0, .null]) (st := []) (w := w2) rfl h4).trans <|
    (runs_stps (q' := (100, [.long x0, .null, .int 0, .null], [.int 0, .int 121, .int 112, .int 111, .int 99, .long x0], w2)) 6 rfl).trans <|
    (runs_callS (rv := some (.long r3)) (w' := w3) rfl rfl rfl h5).trans <|
    (runs_stps (q' := (104, [.long x0, .null, .int 0, .null], [.int (lg_cmp x0 r3)], w3)) 1 rfl).trans <|
    (runs_if_f (a := 107) (b := 111) (L := [.long x0, .null, .int 0, .null]) (st := []) (w := w3) rfl h6).trans <|
    (runs_stps (q' := (122, [.long x0, .null, .null, .int 0], [.int 0, .int 0, .int 109, .int 117, .int 104, .long x0], w3)) 8 rfl).trans <|
    (runs_callS (rv := some (.long r4)) (w' := w4) rfl rfl rfl h7).trans <|
    (runs_stps (q' := (126, [.long x0, .null, .null, .int 0], [.int (lg_cmp x0 r4)], w4)) 1 rfl).trans <|
    (runs_if_t (a := 129) (b := 133) (L := [.long x0, .null, .null, .int 0]) (st := []) (w := w4) rfl h8).trans <|
    (runs_stps (q' := (134, [.long x0, .null, .null, .int 0], [.int 5], w4)) 2 rfl).trans <|
    runs_ret rfl
theorem p_X9_wordOf_0FTFT_R {ex : Ex} {x0 : Int64} {r1 : Int64} {w1 : Wd} {r2 : Int64} {w2 : Wd} {r3 : Int64} {w3 : Wd} {r4 : Int64} {w4 : Wd} {w : Wd} (h1 : ex 141 [.int 115, .int 112, .int 101, .int 108, .int 108] w = some (some (.long r1), w1)) (h2 : (lg_cmp x0 r1) = 0) (h3 : ex 141 [.int 115, .int 119, .int 97, .int 112, .int 0] w1 = some (some (.long r2), w2)) (h4 : ¬ (lg_cmp x0 r2) = 0) (h5 : ex 141 [.int 99, .int 111, .int 112, .int 121, .int 0] w2 = some (some (.long r3), w3)) (h6 : (lg_cmp x0 r3) = 0) (h7 : ex 141 [.int 104, .int 117, .int 109, .int 0, .int 0] w3 = some (some (.long r4), w4)) (h8 : ¬ (lg_cmp x0 r4) = 0) : runs (T_X9_wordOf ex) (0, [.long x0, .null, .null, .null], [], w) = some (some (.int 4), w4) := 
    (runs_stps (q' := (11, [.long x0, .null, .null, .null], [.int 108, .int 108, .int 101, .int 112, .int 115, .long x0], w)) 6 rfl).trans <|
    (runs_callS (rv := some (.long r1)) (w' := w1) rfl rfl rfl h1).trans <|
    (runs_stps (q' := (15, [.long x0, .null, .null, .null], [.int (lg_cmp x0 r1)], w1)) 1 rfl).trans <|
    (runs_if_t (a := 18) (b := 22) (L := [.long x0, .null, .null, .null]) (st := []) (w := w1) rfl h2).trans <|
    (runs_stps (q' := (79, [.long x0, .null, .int 0, .null], [.int 0, .int 112, .int 97, .int 119, .int 115, .long x0], w1)) 9 rfl).trans <|
    (runs_callS (rv := some (.long r2)) (w' := w2) rfl rfl rfl h3).trans <|
    (runs_stps (q' := (83, [.long x0, .null, .int 0, .null], [.int (lg_cmp x0 r2)], w2)) 1 rfl).trans <|
    (runs_if_f (a := 86) (b := 90) (L := [.long x0, .null, .int 0, .null]) (st := []) (w := w2) rfl h4).trans <|
    (runs_stps (q' := (100, [.long x0, .null, .int 0, .null], [.int 0, .int 121, .int 112, .int 111, .int 99, .long x0], w2)) 6 rfl).trans <|
    (runs_callS (rv := some (.long r3)) (w' := w3) rfl rfl rfl h5).trans <|
    (runs_stps (q' := (104, [.long x0, .null, .int 0, .null], [.int (lg_cmp x0 r3)], w3)) 1 rfl).trans <|
    (runs_if_t (a := 107) (b := 111) (L := [.long x0, .null, .int 0, .null]) (st := []) (w := w3) rfl h6).trans <|
    (runs_stps (q' := (122, [.long x0, .null, .null, .int 4], [.int 0, .int 0, .int 109, .int 117, .int 104, .long x0], w3)) 9 rfl).trans <|
    (runs_callS (rv := some (.long r4)) (w' := w4) rfl rfl rfl h7).trans <|
    (runs_stps (q' := (126, [.long x0, .null, .null, .int 4], [.int (lg_cmp x0 r4)], w4)) 1 rfl).trans <|
    (runs_if_f (a := 129) (b := 133) (L := [.long x0, .null, .null, .int 4]) (st := []) (w := w4) rfl h8).trans <|
    (runs_stps (q' := (134, [.null, .null, .null, .int 4], [.int 4], w4)) 1 rfl).trans <|
    runs_ret rfl
theorem p_X9_wordOf_0FTFF_R {ex : Ex} {x0 : Int64} {r1 : Int64} {w1 : Wd} {r2 : Int64} {w2 : Wd} {r3 : Int64} {w3 : Wd} {r4 : Int64} {w4 : Wd} {w : Wd} (h1 : ex 141 [.int 115, .int 112, .int 101, .int 108, .int 108] w = some (some (.long r1), w1)) (h2 : (lg_cmp x0 r1) = 0) (h3 : ex 141 [.int 115, .int 119, .int 97, .int 112, .int 0] w1 = some (some (.long r2), w2)) (h4 : ¬ (lg_cmp x0 r2) = 0) (h5 : ex 141 [.int 99, .int 111, .int 112, .int 121, .int 0] w2 = some (some (.long r3), w3)) (h6 : (lg_cmp x0 r3) = 0) (h7 : ex 141 [.int 104, .int 117, .int 109, .int 0, .int 0] w3 = some (some (.long r4), w4)) (h8 : (lg_cmp x0 r4) = 0) : runs (T_X9_wordOf ex) (0, [.long x0, .null, .null, .null], [], w) = some (some (.int 5), w4) := 
    (runs_stps (q' := (11, [.long x0, .null, .null, .null], [.int 108, .int 108, .int 101, .int 112, .int 115, .long x0], w)) 6 rfl).trans <|
    (runs_callS (rv := some (.long r1)) (w' := w1) rfl rfl rfl h1).trans <|
    (runs_stps (q' := (15, [.long x0, .null, .null, .null], [.int (lg_cmp x0 r1)], w1)) 1 rfl).trans <|
    (runs_if_t (a := 18) (b := 22) (L := [.long x0, .null, .null, .null]) (st := []) (w := w1) rfl h2).trans <|
    (runs_stps (q' := (79, [.long x0, .null, .int 0, .null], [.int 0, .int 112, .int 97, .int 119, .int 115, .long x0], w1)) 9 rfl).trans <|
    (runs_callS (rv := some (.long r2)) (w' := w2) rfl rfl rfl h3).trans <|
    (runs_stps (q' := (83, [.long x0, .null, .int 0, .null], [.int (lg_cmp x0 r2)], w2)) 1 rfl).trans <|
    (runs_if_f (a := 86) (b := 90) (L := [.long x0, .null, .int 0, .null]) (st := []) (w := w2) rfl h4).trans <|
    (runs_stps (q' := (100, [.long x0, .null, .int 0, .null], [.int 0, .int 121, .int 112, .int 111, .int 99, .long x0], w2)) 6 rfl).trans <|
    (runs_callS (rv := some (.long r3)) (w' := w3) rfl rfl rfl h5).trans <|
    (runs_stps (q' := (104, [.long x0, .null, .int 0, .null], [.int (lg_cmp x0 r3)], w3)) 1 rfl).trans <|
    (runs_if_t (a := 107) (b := 111) (L := [.long x0, .null, .int 0, .null]) (st := []) (w := w3) rfl h6).trans <|
    (runs_stps (q' := (122, [.long x0, .null, .null, .int 4], [.int 0, .int 0, .int 109, .int 117, .int 104, .long x0], w3)) 9 rfl).trans <|
    (runs_callS (rv := some (.long r4)) (w' := w4) rfl rfl rfl h7).trans <|
    (runs_stps (q' := (126, [.long x0, .null, .null, .int 4], [.int (lg_cmp x0 r4)], w4)) 1 rfl).trans <|
    (runs_if_t (a := 129) (b := 133) (L := [.long x0, .null, .null, .int 4]) (st := []) (w := w4) rfl h8).trans <|
    (runs_stps (q' := (134, [.long x0, .null, .null, .int 4], [.int 5], w4)) 2 rfl).trans <|
    runs_ret rfl
theorem p_X9_wordOf_0FFT_R {ex : Ex} {x0 : Int64} {r1 : Int64} {w1 : Wd} {r2 : Int64} {w2 : Wd} {r3 : Int64} {w3 : Wd} {w : Wd} (h1 : ex 141 [.int 115, .int 112, .int 101, .int 108, .int 108] w = some (some (.long r1), w1)) (h2 : (lg_cmp x0 r1) = 0) (h3 : ex 141 [.int 115, .int 119, .int 97, .int 112, .int 0] w1 = some (some (.long r2), w2)) (h4 : (lg_cmp x0 r2) = 0) (h5 : ex 141 [.int 104, .int 117, .int 109, .int 0, .int 0] w2 = some (some (.long r3), w3)) (h6 : ¬ (lg_cmp x0 r3) = 0) : runs (T_X9_wordOf ex) (0, [.long x0, .null, .null, .null], [], w) = some (some (.int 3), w3) := 
    (runs_stps (q' := (11, [.long x0, .null, .null, .null], [.int 108, .int 108, .int 101, .int 112, .int 115, .long x0], w)) 6 rfl).trans <|
    (runs_callS (rv := some (.long r1)) (w' := w1) rfl rfl rfl h1).trans <|
    (runs_stps (q' := (15, [.long x0, .null, .null, .null], [.int (lg_cmp x0 r1)], w1)) 1 rfl).trans <|
    (runs_if_t (a := 18) (b := 22) (L := [.long x0, .null, .null, .null]) (st := []) (w := w1) rfl h2).trans <|
    (runs_stps (q' := (79, [.long x0, .null, .int 0, .null], [.int 0, .int 112, .int 97, .int 119, .int 115, .long x0], w1)) 9 rfl).trans <|
    (runs_callS (rv := some (.long r2)) (w' := w2) rfl rfl rfl h3).trans <|
    (runs_stps (q' := (83, [.long x0, .null, .int 0, .null], [.int (lg_cmp x0 r2)], w2)) 1 rfl).trans <|
    (runs_if_t (a := 86) (b := 90) (L := [.long x0, .null, .int 0, .null]) (st := []) (w := w2) rfl h4).trans <|
    (runs_stps (q' := (122, [.long x0, .null, .null, .int 3], [.int 0, .int 0, .int 109, .int 117, .int 104, .long x0], w2)) 9 rfl).trans <|
    (runs_callS (rv := some (.long r3)) (w' := w3) rfl rfl rfl h5).trans <|
    (runs_stps (q' := (126, [.long x0, .null, .null, .int 3], [.int (lg_cmp x0 r3)], w3)) 1 rfl).trans <|
    (runs_if_f (a := 129) (b := 133) (L := [.long x0, .null, .null, .int 3]) (st := []) (w := w3) rfl h6).trans <|
    (runs_stps (q' := (134, [.null, .null, .null, .int 3], [.int 3], w3)) 1 rfl).trans <|
    runs_ret rfl
theorem p_X9_wordOf_0FFF_R {ex : Ex} {x0 : Int64} {r1 : Int64} {w1 : Wd} {r2 : Int64} {w2 : Wd} {r3 : Int64} {w3 : Wd} {w : Wd} (h1 : ex 141 [.int 115, .int 112, .int 101, .int 108, .int 108] w = some (some (.long r1), w1)) (h2 : (lg_cmp x0 r1) = 0) (h3 : ex 141 [.int 115, .int 119, .int 97, .int 112, .int 0] w1 = some (some (.long r2), w2)) (h4 : (lg_cmp x0 r2) = 0) (h5 : ex 141 [.int 104, .int 117, .int 109, .int 0, .int 0] w2 = some (some (.long r3), w3)) (h6 : (lg_cmp x0 r3) = 0) : runs (T_X9_wordOf ex) (0, [.long x0, .null, .null, .null], [], w) = some (some (.int 5), w3) := 
    (runs_stps (q' := (11, [.long x0, .null, .null, .null], [.int 108, .int 108, .int 101, .int 112, .int 115, .long x0], w)) 6 rfl).trans <|
    (runs_callS (rv := some (.long r1)) (w' := w1) rfl rfl rfl h1).trans <|
    (runs_stps (q' := (15, [.long x0, .null, .null, .null], [.int (lg_cmp x0 r1)], w1)) 1 rfl).trans <|
    (runs_if_t (a := 18) (b := 22) (L := [.long x0, .null, .null, .null]) (st := []) (w := w1) rfl h2).trans <|
    (runs_stps (q' := (79, [.long x0, .null, .int 0, .null], [.int 0, .int 112, .int 97, .int 119, .int 115, .long x0], w1)) 9 rfl).trans <|
    (runs_callS (rv := some (.long r2)) (w' := w2) rfl rfl rfl h3).trans <|
    (runs_stps (q' := (83, [.long x0, .null, .int 0, .null], [.int (lg_cmp x0 r2)], w2)) 1 rfl).trans <|
    (runs_if_t (a := 86) (b := 90) (L := [.long x0, .null, .int 0, .null]) (st := []) (w := w2) rfl h4).trans <|
    (runs_stps (q' := (122, [.long x0, .null, .null, .int 3], [.int 0, .int 0, .int 109, .int 117, .int 104, .long x0], w2)) 9 rfl).trans <|
    (runs_callS (rv := some (.long r3)) (w' := w3) rfl rfl rfl h5).trans <|
    (runs_stps (q' := (126, [.long x0, .null, .null, .int 3], [.int (lg_cmp x0 r3)], w3)) 1 rfl).trans <|
    (runs_if_t (a := 129) (b := 133) (L := [.long x0, .null, .null, .int 3]) (st := []) (w := w3) rfl h6).trans <|
    (runs_stps (q' := (134, [.long x0, .null, .null, .int 3], [.int 5], w3)) 2 rfl).trans <|
    runs_ret rfl
theorem p_X9_advances_0TTTTT_R {ex : Ex} {r1 : Int32} {w1 : Wd} {r2 : Int32} {w2 : Wd} {r3 : Int32} {w3 : Wd} {r4 : Int32} {w4 : Wd} {w : Wd} (h1 : ex 139 [.ref 34, .int (w.1 34 4)] w = some (some (.int r1), w1)) (h2 : ¬ r1 = 32) (h3 : ex 139 [.ref 34, .int (w1.1 34 4)] (updI w1 34 6 (w1.1 34 4)) = some (some (.int r2), w2)) (h4 : 0 ≤ r2) (h5 : ex 135 [.int r2, .int 97, .int 122] w2 = some (some (.int r3), w3)) (h6 : r3 = 0) (h7 : ex 135 [.int r2, .int 48, .int 57] w3 = some (some (.int r4), w4)) (h8 : r4 = 0) (h9 : ¬ r2 = 59) : runs (T_X9_advances ex) (0, [.ref 34, .null, .null, .null], [], w) = some (none, updI (updI w4 34 4 ((w4.1 34 4) + 1)) 34 5 4) := 
    (runs_stps (q' := (5, [.ref 34, .null, .null, .null], [.int (w.1 34 4), .ref 34], w)) 3 rfl).trans <|
    (runs_callV (rv := some (.int r1)) (w' := w1) rfl rfl rfl rfl h1).trans <|
    (runs_stps (q' := (10, [.ref 34, .null, .null, .null], [.int 32, .int r1], w1)) 1 rfl).trans <|
    (runs_if_f (a := 13) (b := 26) (L := [.ref 34, .null, .null, .null]) (st := []) (w := w1) rfl h2).trans <|
    (runs_stps (q' := (39, [.ref 34, .null, .null, .null], [.int (w1.1 34 4), .ref 34], updI w1 34 6 (w1.1 34 4))) 7 rfl).trans <|
    (runs_callV (rv := some (.int r2)) (w' := w2) rfl rfl rfl rfl h3).trans <|
    (runs_stps (q' := (44, [.ref 34, .int r2, .null, .null], [.int r2], w2)) 2 rfl).trans <|
    (runs_if_t (a := 55) (b := 47) (L := [.ref 34, .int r2, .null, .null]) (st := []) (w := w2) rfl h4).trans <|
    (runs_stps (q' := (60, [.ref 34, .int r2, .null, .null], [.int 122, .int 97, .int r2], w2)) 3 rfl).trans <|
    (runs_callS (rv := some (.int r3)) (w' := w3) rfl rfl rfl h5).trans <|
    (runs_if_t (a := 159) (b := 66) (L := [.ref 34, .int r2, .null, .null]) (st := []) (w := w3) rfl h6).trans <|
    (runs_stps (q' := (164, [.ref 34, .int r2, .null, .null], [.int 57, .int 48, .int r2], w3)) 3 rfl).trans <|
    (runs_callS (rv := some (.int r4)) (w' := w4) rfl rfl rfl h7).trans <|
    (runs_if_t (a := 285) (b := 170) (L := [.ref 34, .int r2, .null, .null]) (st := []) (w := w4) rfl h8).trans <|
    (runs_stps (q' := (299, [.ref 34, .int r2, .null, .null], [.int 59, .int r2, .ref 34], updI w4 34 4 ((w4.1 34 4) + 1))) 9 rfl).trans <|
    (runs_if_f (a := 302) (b := 306) (L := [.ref 34, .int r2, .null, .null]) (st := [.ref 34]) (w := updI w4 34 4 ((w4.1 34 4) + 1)) rfl h9).trans <|
    (runs_stps (q' := (310, [.null, .null, .null, .null], [], updI (updI w4 34 4 ((w4.1 34 4) + 1)) 34 5 4)) 2 rfl).trans <|
    runs_ret rfl
theorem p_X9_advances_0TTTTF_R {ex : Ex} {r1 : Int32} {w1 : Wd} {r2 : Int32} {w2 : Wd} {r3 : Int32} {w3 : Wd} {r4 : Int32} {w4 : Wd} {w : Wd} (h1 : ex 139 [.ref 34, .int (w.1 34 4)] w = some (some (.int r1), w1)) (h2 : ¬ r1 = 32) (h3 : ex 139 [.ref 34, .int (w1.1 34 4)] (updI w1 34 6 (w1.1 34 4)) = some (some (.int r2), w2)) (h4 : 0 ≤ r2) (h5 : ex 135 [.int r2, .int 97, .int 122] w2 = some (some (.int r3), w3)) (h6 : r3 = 0) (h7 : ex 135 [.int r2, .int 48, .int 57] w3 = some (some (.int r4), w4)) (h8 : r4 = 0) (h9 : r2 = 59) : runs (T_X9_advances ex) (0, [.ref 34, .null, .null, .null], [], w) = some (none, updI (updI w4 34 4 ((w4.1 34 4) + 1)) 34 5 3) := 
    (runs_stps (q' := (5, [.ref 34, .null, .null, .null], [.int (w.1 34 4), .ref 34], w)) 3 rfl).trans <|
    (runs_callV (rv := some (.int r1)) (w' := w1) rfl rfl rfl rfl h1).trans <|
    (runs_stps (q' := (10, [.ref 34, .null, .null, .null], [.int 32, .int r1], w1)) 1 rfl).trans <|
    (runs_if_f (a := 13) (b := 26) (L := [.ref 34, .null, .null, .null]) (st := []) (w := w1) rfl h2).trans <|
    (runs_stps (q' := (39, [.ref 34, .null, .null, .null], [.int (w1.1 34 4), .ref 34], updI w1 34 6 (w1.1 34 4))) 7 rfl).trans <|
    (runs_callV (rv := some (.int r2)) (w' := w2) rfl rfl rfl rfl h3).trans <|
    (runs_stps (q' := (44, [.ref 34, .int r2, .null, .null], [.int r2], w2)) 2 rfl).trans <|
    (runs_if_t (a := 55) (b := 47) (L := [.ref 34, .int r2, .null, .null]) (st := []) (w := w2) rfl h4).trans <|
    (runs_stps (q' := (60, [.ref 34, .int r2, .null, .null], [.int 122, .int 97, .int r2], w2)) 3 rfl).trans <|
    (runs_callS (rv := some (.int r3)) (w' := w3) rfl rfl rfl h5).trans <|
    (runs_if_t (a := 159) (b := 66) (L := [.ref 34, .int r2, .null, .null]) (st := []) (w := w3) rfl h6).trans <|
    (runs_stps (q' := (164, [.ref 34, .int r2, .null, .null], [.int 57, .int 48, .int r2], w3)) 3 rfl).trans <|
    (runs_callS (rv := some (.int r4)) (w' := w4) rfl rfl rfl h7).trans <|
    (runs_if_t (a := 285) (b := 170) (L := [.ref 34, .int r2, .null, .null]) (st := []) (w := w4) rfl h8).trans <|
    (runs_stps (q' := (299, [.ref 34, .int r2, .null, .null], [.int 59, .int r2, .ref 34], updI w4 34 4 ((w4.1 34 4) + 1))) 9 rfl).trans <|
    (runs_if_t (a := 302) (b := 306) (L := [.ref 34, .int r2, .null, .null]) (st := [.ref 34]) (w := updI w4 34 4 ((w4.1 34 4) + 1)) rfl h9).trans <|
    (runs_stps (q' := (310, [.null, .null, .null, .null], [], updI (updI w4 34 4 ((w4.1 34 4) + 1)) 34 5 3)) 3 rfl).trans <|
    runs_ret rfl
theorem p_X9_advances_0TTTF_L175 {ex : Ex} {r1 : Int32} {w1 : Wd} {r2 : Int32} {w2 : Wd} {r3 : Int32} {w3 : Wd} {r4 : Int32} {w4 : Wd} {w : Wd} (h1 : ex 139 [.ref 34, .int (w.1 34 4)] w = some (some (.int r1), w1)) (h2 : ¬ r1 = 32) (h3 : ex 139 [.ref 34, .int (w1.1 34 4)] (updI w1 34 6 (w1.1 34 4)) = some (some (.int r2), w2)) (h4 : 0 ≤ r2) (h5 : ex 135 [.int r2, .int 97, .int 122] w2 = some (some (.int r3), w3)) (h6 : r3 = 0) (h7 : ex 135 [.int r2, .int 48, .int 57] w3 = some (some (.int r4), w4)) (h8 : ¬ r4 = 0) : runs (T_X9_advances ex) (0, [.ref 34, .null, .null, .null], [], w) = runs (T_X9_advances ex) (175, [.ref 34, .int r2, .null, .null], [], updI w4 34 7 0) := 
    (runs_stps (q' := (5, [.ref 34, .null, .null, .null], [.int (w.1 34 4), .ref 34], w)) 3 rfl).trans <|
    (runs_callV (rv := some (.int r1)) (w' := w1) rfl rfl rfl rfl h1).trans <|
    (runs_stps (q' := (10, [.ref 34, .null, .null, .null], [.int 32, .int r1], w1)) 1 rfl).trans <|
    (runs_if_f (a := 13) (b := 26) (L := [.ref 34, .null, .null, .null]) (st := []) (w := w1) rfl h2).trans <|
    (runs_stps (q' := (39, [.ref 34, .null, .null, .null], [.int (w1.1 34 4), .ref 34], updI w1 34 6 (w1.1 34 4))) 7 rfl).trans <|
    (runs_callV (rv := some (.int r2)) (w' := w2) rfl rfl rfl rfl h3).trans <|
    (runs_stps (q' := (44, [.ref 34, .int r2, .null, .null], [.int r2], w2)) 2 rfl).trans <|
    (runs_if_t (a := 55) (b := 47) (L := [.ref 34, .int r2, .null, .null]) (st := []) (w := w2) rfl h4).trans <|
    (runs_stps (q' := (60, [.ref 34, .int r2, .null, .null], [.int 122, .int 97, .int r2], w2)) 3 rfl).trans <|
    (runs_callS (rv := some (.int r3)) (w' := w3) rfl rfl rfl h5).trans <|
    (runs_if_t (a := 159) (b := 66) (L := [.ref 34, .int r2, .null, .null]) (st := []) (w := w3) rfl h6).trans <|
    (runs_stps (q' := (164, [.ref 34, .int r2, .null, .null], [.int 57, .int 48, .int r2], w3)) 3 rfl).trans <|
    (runs_callS (rv := some (.int r4)) (w' := w4) rfl rfl rfl h7).trans <|
    (runs_if_f (a := 285) (b := 170) (L := [.ref 34, .int r2, .null, .null]) (st := []) (w := w4) rfl h8).trans <|
    (runs_stps (q' := (175, [.ref 34, .int r2, .null, .null], [], updI w4 34 7 0)) 3 rfl).trans <|
    rfl
theorem p_X9_advances_0TTF_L68 {ex : Ex} {r1 : Int32} {w1 : Wd} {r2 : Int32} {w2 : Wd} {r3 : Int32} {w3 : Wd} {w : Wd} (h1 : ex 139 [.ref 34, .int (w.1 34 4)] w = some (some (.int r1), w1)) (h2 : ¬ r1 = 32) (h3 : ex 139 [.ref 34, .int (w1.1 34 4)] (updI w1 34 6 (w1.1 34 4)) = some (some (.int r2), w2)) (h4 : 0 ≤ r2) (h5 : ex 135 [.int r2, .int 97, .int 122] w2 = some (some (.int r3), w3)) (h6 : ¬ r3 = 0) : runs (T_X9_advances ex) (0, [.ref 34, .null, .null, .null], [], w) = runs (T_X9_advances ex) (68, [.ref 34, .int r2, .long 0, .null], [], w3) := 
    (runs_stps (q' := (5, [.ref 34, .null, .null, .null], [.int (w.1 34 4), .ref 34], w)) 3 rfl).trans <|
    (runs_callV (rv := some (.int r1)) (w' := w1) rfl rfl rfl rfl h1).trans <|
    (runs_stps (q' := (10, [.ref 34, .null, .null, .null], [.int 32, .int r1], w1)) 1 rfl).trans <|
    (runs_if_f (a := 13) (b := 26) (L := [.ref 34, .null, .null, .null]) (st := []) (w := w1) rfl h2).trans <|
    (runs_stps (q' := (39, [.ref 34, .null, .null, .null], [.int (w1.1 34 4), .ref 34], updI w1 34 6 (w1.1 34 4))) 7 rfl).trans <|
    (runs_callV (rv := some (.int r2)) (w' := w2) rfl rfl rfl rfl h3).trans <|
    (runs_stps (q' := (44, [.ref 34, .int r2, .null, .null], [.int r2], w2)) 2 rfl).trans <|
    (runs_if_t (a := 55) (b := 47) (L := [.ref 34, .int r2, .null, .null]) (st := []) (w := w2) rfl h4).trans <|
    (runs_stps (q' := (60, [.ref 34, .int r2, .null, .null], [.int 122, .int 97, .int r2], w2)) 3 rfl).trans <|
    (runs_callS (rv := some (.int r3)) (w' := w3) rfl rfl rfl h5).trans <|
    (runs_if_f (a := 159) (b := 66) (L := [.ref 34, .int r2, .null, .null]) (st := []) (w := w3) rfl h6).trans <|
    (runs_stps (q' := (68, [.ref 34, .int r2, .long 0, .null], [], w3)) 2 rfl).trans <|
    rfl
theorem p_X9_advances_0TF_R {ex : Ex} {r1 : Int32} {w1 : Wd} {r2 : Int32} {w2 : Wd} {w : Wd} (h1 : ex 139 [.ref 34, .int (w.1 34 4)] w = some (some (.int r1), w1)) (h2 : ¬ r1 = 32) (h3 : ex 139 [.ref 34, .int (w1.1 34 4)] (updI w1 34 6 (w1.1 34 4)) = some (some (.int r2), w2)) (h4 : ¬ 0 ≤ r2) : runs (T_X9_advances ex) (0, [.ref 34, .null, .null, .null], [], w) = some (none, updI w2 34 5 0) := 
    (runs_stps (q' := (5, [.ref 34, .null, .null, .null], [.int (w.1 34 4), .ref 34], w)) 3 rfl).trans <|
    (runs_callV (rv := some (.int r1)) (w' := w1) rfl rfl rfl rfl h1).trans <|
    (runs_stps (q' := (10, [.ref 34, .null, .null, .null], [.int 32, .int r1], w1)) 1 rfl).trans <|
    (runs_if_f (a := 13) (b := 26) (L := [.ref 34, .null, .null, .null]) (st := []) (w := w1) rfl h2).trans <|
    (runs_stps (q' := (39, [.ref 34, .null, .null, .null], [.int (w1.1 34 4), .ref 34], updI w1 34 6 (w1.1 34 4))) 7 rfl).trans <|
    (runs_callV (rv := some (.int r2)) (w' := w2) rfl rfl rfl rfl h3).trans <|
    (runs_stps (q' := (44, [.ref 34, .int r2, .null, .null], [.int r2], w2)) 2 rfl).trans <|
    (runs_if_f (a := 55) (b := 47) (L := [.ref 34, .int r2, .null, .null]) (st := []) (w := w2) rfl h4).trans <|
    (runs_stps (q' := (310, [.ref 34, .int r2, .null, .null], [], updI w2 34 5 0)) 4 rfl).trans <|
    runs_ret rfl
theorem p_X9_advances_0F_L0 {ex : Ex} {r1 : Int32} {w1 : Wd} {w : Wd} (h1 : ex 139 [.ref 34, .int (w.1 34 4)] w = some (some (.int r1), w1)) (h2 : r1 = 32) : runs (T_X9_advances ex) (0, [.ref 34, .null, .null, .null], [], w) = runs (T_X9_advances ex) (0, [.ref 34, .null, .null, .null], [], updI w1 34 4 ((w1.1 34 4) + 1)) := 
    (runs_stps (q' := (5, [.ref 34, .null, .null, .null], [.int (w.1 34 4), .ref 34], w)) 3 rfl).trans <|
    (runs_callV (rv := some (.int r1)) (w' := w1) rfl rfl rfl rfl h1).trans <|
    (runs_stps (q' := (10, [.ref 34, .null, .null, .null], [.int 32, .int r1], w1)) 1 rfl).trans <|
    (runs_if_t (a := 13) (b := 26) (L := [.ref 34, .null, .null, .null]) (st := []) (w := w1) rfl h2).trans <|
    (runs_stps (q' := (0, [.ref 34, .null, .null, .null], [], updI w1 34 4 ((w1.1 34 4) + 1))) 7 rfl).trans <|
    rfl
theorem p_X9_advances_68TT_R {ex : Ex} {v1 : Value} {x2 : Int64} {r1 : Int32} {w1 : Wd} {r2 : Int32} {w2 : Wd} {r3 : Int32} {w3 : Wd} {w : Wd} (h1 : ex 139 [.ref 34, .int (w.1 34 4)] w = some (some (.int r1), w1)) (h2 : ex 135 [.int r1, .int 97, .int 122] w1 = some (some (.int r2), w2)) (h3 : r2 = 0) (h4 : ex 142 [.long x2] w2 = some (some (.int r3), w3)) (h5 : ¬ r3 = (-9)) : runs (T_X9_advances ex) (68, [.ref 34, v1, .long x2, .null], [], w) = some (none, updI (updI w3 34 7 r3) 34 5 1) := 
    (runs_stps (q' := (73, [.ref 34, .null, .long x2, .null], [.int (w.1 34 4), .ref 34], w)) 3 rfl).trans <|
    (runs_callV (rv := some (.int r1)) (w' := w1) rfl rfl rfl rfl h1).trans <|
    (runs_stps (q' := (80, [.ref 34, .null, .long x2, .null], [.int 122, .int 97, .int r1], w1)) 2 rfl).trans <|
    (runs_callS (rv := some (.int r2)) (w' := w2) rfl rfl rfl h2).trans <|
    (runs_if_t (a := 130) (b := 86) (L := [.ref 34, .null, .long x2, .null]) (st := []) (w := w2) rfl h3).trans <|
    (runs_stps (q' := (132, [.ref 34, .null, .long x2, .null], [.long x2, .ref 34], w2)) 2 rfl).trans <|
    (runs_callS (rv := some (.int r3)) (w' := w3) rfl rfl rfl h4).trans <|
    (runs_stps (q' := (145, [.ref 34, .null, .long x2, .null], [.int (-9), .int r3, .ref 34], updI w3 34 7 r3)) 5 rfl).trans <|
    (runs_if_f (a := 148) (b := 152) (L := [.ref 34, .null, .long x2, .null]) (st := [.ref 34]) (w := updI w3 34 7 r3) rfl h5).trans <|
    (runs_stps (q' := (310, [.null, .null, .null, .null], [], updI (updI w3 34 7 r3) 34 5 1)) 3 rfl).trans <|
    runs_ret rfl
theorem p_X9_advances_68TF_R {ex : Ex} {v1 : Value} {x2 : Int64} {r1 : Int32} {w1 : Wd} {r2 : Int32} {w2 : Wd} {r3 : Int32} {w3 : Wd} {w : Wd} (h1 : ex 139 [.ref 34, .int (w.1 34 4)] w = some (some (.int r1), w1)) (h2 : ex 135 [.int r1, .int 97, .int 122] w1 = some (some (.int r2), w2)) (h3 : r2 = 0) (h4 : ex 142 [.long x2] w2 = some (some (.int r3), w3)) (h5 : r3 = (-9)) : runs (T_X9_advances ex) (68, [.ref 34, v1, .long x2, .null], [], w) = some (none, updI (updI w3 34 7 r3) 34 5 4) := 
    (runs_stps (q' := (73, [.ref 34, .null, .long x2, .null], [.int (w.1 34 4), .ref 34], w)) 3 rfl).trans <|
    (runs_callV (rv := some (.int r1)) (w' := w1) rfl rfl rfl rfl h1).trans <|
    (runs_stps (q' := (80, [.ref 34, .null, .long x2, .null], [.int 122, .int 97, .int r1], w1)) 2 rfl).trans <|
    (runs_callS (rv := some (.int r2)) (w' := w2) rfl rfl rfl h2).trans <|
    (runs_if_t (a := 130) (b := 86) (L := [.ref 34, .null, .long x2, .null]) (st := []) (w := w2) rfl h3).trans <|
    (runs_stps (q' := (132, [.ref 34, .null, .long x2, .null], [.long x2, .ref 34], w2)) 2 rfl).trans <|
    (runs_callS (rv := some (.int r3)) (w' := w3) rfl rfl rfl h4).trans <|
    (runs_stps (q' := (145, [.ref 34, .null, .long x2, .null], [.int (-9), .int r3, .ref 34], updI w3 34 7 r3)) 5 rfl).trans <|
    (runs_if_t (a := 148) (b := 152) (L := [.ref 34, .null, .long x2, .null]) (st := [.ref 34]) (w := updI w3 34 7 r3) rfl h5).trans <|
    (runs_stps (q' := (310, [.null, .null, .null, .null], [], updI (updI w3 34 7 r3) 34 5 4)) 4 rfl).trans <|
    runs_ret rfl
theorem p_X9_advances_68FT_L68 {ex : Ex} {v1 : Value} {x2 : Int64} {r1 : Int32} {w1 : Wd} {r2 : Int32} {w2 : Wd} {w : Wd} (h1 : ex 139 [.ref 34, .int (w.1 34 4)] w = some (some (.int r1), w1)) (h2 : ex 135 [.int r1, .int 97, .int 122] w1 = some (some (.int r2), w2)) (h3 : ¬ r2 = 0) (h4 : 6 ≤ ((w2.1 34 4) - (w2.1 34 6))) : runs (T_X9_advances ex) (68, [.ref 34, v1, .long x2, .null], [], w) = runs (T_X9_advances ex) (68, [.ref 34, .null, .long x2, .null], [], updI w2 34 4 ((w2.1 34 4) + 1)) := 
    (runs_stps (q' := (73, [.ref 34, .null, .long x2, .null], [.int (w.1 34 4), .ref 34], w)) 3 rfl).trans <|
    (runs_callV (rv := some (.int r1)) (w' := w1) rfl rfl rfl rfl h1).trans <|
    (runs_stps (q' := (80, [.ref 34, .null, .long x2, .null], [.int 122, .int 97, .int r1], w1)) 2 rfl).trans <|
    (runs_callS (rv := some (.int r2)) (w' := w2) rfl rfl rfl h2).trans <|
    (runs_if_f (a := 130) (b := 86) (L := [.ref 34, .null, .long x2, .null]) (st := []) (w := w2) rfl h3).trans <|
    (runs_stps (q' := (97, [.ref 34, .null, .long x2, .null], [.int 6, .int ((w2.1 34 4) - (w2.1 34 6))], w2)) 6 rfl).trans <|
    (runs_if_t (a := 115) (b := 100) (L := [.ref 34, .null, .long x2, .null]) (st := []) (w := w2) rfl h4).trans <|
    (runs_stps (q' := (68, [.ref 34, .null, .long x2, .null], [], updI w2 34 4 ((w2.1 34 4) + 1))) 9 rfl).trans <|
    rfl
theorem p_X9_advances_68FF_L68 {ex : Ex} {v1 : Value} {x2 : Int64} {r1 : Int32} {w1 : Wd} {r2 : Int32} {w2 : Wd} {r3 : Int32} {w3 : Wd} {r4 : Int64} {w4 : Wd} {w : Wd} (h1 : ex 139 [.ref 34, .int (w.1 34 4)] w = some (some (.int r1), w1)) (h2 : ex 135 [.int r1, .int 97, .int 122] w1 = some (some (.int r2), w2)) (h3 : ¬ r2 = 0) (h4 : ¬ 6 ≤ ((w2.1 34 4) - (w2.1 34 6))) (h5 : ex 139 [.ref 34, .int (w2.1 34 4)] w2 = some (some (.int r3), w3)) (h6 : ex 140 [.long x2, .int r3] w3 = some (some (.long r4), w4)) : runs (T_X9_advances ex) (68, [.ref 34, v1, .long x2, .null], [], w) = runs (T_X9_advances ex) (68, [.ref 34, .null, .long r4, .null], [], updI w4 34 4 ((w4.1 34 4) + 1)) := 
    (runs_stps (q' := (73, [.ref 34, .null, .long x2, .null], [.int (w.1 34 4), .ref 34], w)) 3 rfl).trans <|
    (runs_callV (rv := some (.int r1)) (w' := w1) rfl rfl rfl rfl h1).trans <|
    (runs_stps (q' := (80, [.ref 34, .null, .long x2, .null], [.int 122, .int 97, .int r1], w1)) 2 rfl).trans <|
    (runs_callS (rv := some (.int r2)) (w' := w2) rfl rfl rfl h2).trans <|
    (runs_if_f (a := 130) (b := 86) (L := [.ref 34, .null, .long x2, .null]) (st := []) (w := w2) rfl h3).trans <|
    (runs_stps (q' := (97, [.ref 34, .null, .long x2, .null], [.int 6, .int ((w2.1 34 4) - (w2.1 34 6))], w2)) 6 rfl).trans <|
    (runs_if_f (a := 115) (b := 100) (L := [.ref 34, .null, .long x2, .null]) (st := []) (w := w2) rfl h4).trans <|
    (runs_stps (q' := (106, [.ref 34, .null, .long x2, .null], [.int (w2.1 34 4), .ref 34, .long x2], w2)) 4 rfl).trans <|
    (runs_callV (rv := some (.int r3)) (w' := w3) rfl rfl rfl rfl h5).trans <|
    (runs_callS (rv := some (.long r4)) (w' := w4) rfl rfl rfl h6).trans <|
    (runs_stps (q' := (68, [.ref 34, .null, .long r4, .null], [], updI w4 34 4 ((w4.1 34 4) + 1))) 9 rfl).trans <|
    rfl
theorem p_X9_advances_175TT_R {ex : Ex} {x1 : Int32} {v2 : Value} {r1 : Int32} {w1 : Wd} {r2 : Int32} {w2 : Wd} {w : Wd} (h1 : ex 139 [.ref 34, .int (w.1 34 4)] w = some (some (.int r1), w1)) (h2 : ex 135 [.int r1, .int 48, .int 57] w1 = some (some (.int r2), w2)) (h3 : r2 = 0) (h4 : 99 < (w2.1 34 7)) : runs (T_X9_advances ex) (175, [.ref 34, .int x1, v2, .null], [], w) = some (none, updI w2 34 5 4) := 
    (runs_stps (q' := (180, [.ref 34, .int x1, .null, .null], [.int (w.1 34 4), .ref 34], w)) 3 rfl).trans <|
    (runs_callV (rv := some (.int r1)) (w' := w1) rfl rfl rfl rfl h1).trans <|
    (runs_stps (q' := (187, [.ref 34, .int x1, .null, .null], [.int 57, .int 48, .int r1], w1)) 2 rfl).trans <|
    (runs_callS (rv := some (.int r2)) (w' := w2) rfl rfl rfl h2).trans <|
    (runs_if_t (a := 245) (b := 193) (L := [.ref 34, .int x1, .null, .null]) (st := []) (w := w2) rfl h3).trans <|
    (runs_stps (q' := (252, [.ref 34, .int x1, .null, .null], [.int 99, .int (w2.1 34 7), .ref 34], w2)) 4 rfl).trans <|
    (runs_if_t (a := 274) (b := 255) (L := [.ref 34, .int x1, .null, .null]) (st := [.ref 34]) (w := w2) rfl h4).trans <|
    (runs_stps (q' := (310, [.null, .null, .null, .null], [], updI w2 34 5 4)) 4 rfl).trans <|
    runs_ret rfl
theorem p_X9_advances_175TFT_R {ex : Ex} {x1 : Int32} {v2 : Value} {r1 : Int32} {w1 : Wd} {r2 : Int32} {w2 : Wd} {w : Wd} (h1 : ex 139 [.ref 34, .int (w.1 34 4)] w = some (some (.int r1), w1)) (h2 : ex 135 [.int r1, .int 48, .int 57] w1 = some (some (.int r2), w2)) (h3 : r2 = 0) (h4 : ¬ 99 < (w2.1 34 7)) (h5 : ¬ x1 = 48) : runs (T_X9_advances ex) (175, [.ref 34, .int x1, v2, .null], [], w) = some (none, updI w2 34 5 2) := 
    (runs_stps (q' := (180, [.ref 34, .int x1, .null, .null], [.int (w.1 34 4), .ref 34], w)) 3 rfl).trans <|
    (runs_callV (rv := some (.int r1)) (w' := w1) rfl rfl rfl rfl h1).trans <|
    (runs_stps (q' := (187, [.ref 34, .int x1, .null, .null], [.int 57, .int 48, .int r1], w1)) 2 rfl).trans <|
    (runs_callS (rv := some (.int r2)) (w' := w2) rfl rfl rfl h2).trans <|
    (runs_if_t (a := 245) (b := 193) (L := [.ref 34, .int x1, .null, .null]) (st := []) (w := w2) rfl h3).trans <|
    (runs_stps (q' := (252, [.ref 34, .int x1, .null, .null], [.int 99, .int (w2.1 34 7), .ref 34], w2)) 4 rfl).trans <|
    (runs_if_f (a := 274) (b := 255) (L := [.ref 34, .int x1, .null, .null]) (st := [.ref 34]) (w := w2) rfl h4).trans <|
    (runs_stps (q' := (258, [.ref 34, .int x1, .null, .null], [.int 48, .int x1, .ref 34], w2)) 2 rfl).trans <|
    (runs_if_f (a := 261) (b := 278) (L := [.ref 34, .int x1, .null, .null]) (st := [.ref 34]) (w := w2) rfl h5).trans <|
    (runs_stps (q' := (310, [.null, .null, .null, .null], [], updI w2 34 5 2)) 3 rfl).trans <|
    runs_ret rfl
theorem p_X9_advances_175TFFT_R {ex : Ex} {x1 : Int32} {v2 : Value} {r1 : Int32} {w1 : Wd} {r2 : Int32} {w2 : Wd} {w : Wd} (h1 : ex 139 [.ref 34, .int (w.1 34 4)] w = some (some (.int r1), w1)) (h2 : ex 135 [.int r1, .int 48, .int 57] w1 = some (some (.int r2), w2)) (h3 : r2 = 0) (h4 : ¬ 99 < (w2.1 34 7)) (h5 : x1 = 48) (h6 : ((w2.1 34 4) - (w2.1 34 6)) ≤ 1) : runs (T_X9_advances ex) (175, [.ref 34, .int x1, v2, .null], [], w) = some (none, updI w2 34 5 2) := 
    (runs_stps (q' := (180, [.ref 34, .int x1, .null, .null], [.int (w.1 34 4), .ref 34], w)) 3 rfl).trans <|
    (runs_callV (rv := some (.int r1)) (w' := w1) rfl rfl rfl rfl h1).trans <|
    (runs_stps (q' := (187, [.ref 34, .int x1, .null, .null], [.int 57, .int 48, .int r1], w1)) 2 rfl).trans <|
    (runs_callS (rv := some (.int r2)) (w' := w2) rfl rfl rfl h2).trans <|
    (runs_if_t (a := 245) (b := 193) (L := [.ref 34, .int x1, .null, .null]) (st := []) (w := w2) rfl h3).trans <|
    (runs_stps (q' := (252, [.ref 34, .int x1, .null, .null], [.int 99, .int (w2.1 34 7), .ref 34], w2)) 4 rfl).trans <|
    (runs_if_f (a := 274) (b := 255) (L := [.ref 34, .int x1, .null, .null]) (st := [.ref 34]) (w := w2) rfl h4).trans <|
    (runs_stps (q' := (258, [.ref 34, .int x1, .null, .null], [.int 48, .int x1, .ref 34], w2)) 2 rfl).trans <|
    (runs_if_t (a := 261) (b := 278) (L := [.ref 34, .int x1, .null, .null]) (st := [.ref 34]) (w := w2) rfl h5).trans <|
    (runs_stps (q' := (271, [.ref 34, .int x1, .null, .null], [.int 1, .int ((w2.1 34 4) - (w2.1 34 6)), .ref 34], w2)) 6 rfl).trans <|
    (runs_if_t (a := 278) (b := 274) (L := [.ref 34, .int x1, .null, .null]) (st := [.ref 34]) (w := w2) rfl h6).trans <|
    (runs_stps (q' := (310, [.null, .null, .null, .null], [], updI w2 34 5 2)) 3 rfl).trans <|
    runs_ret rfl
theorem p_X9_advances_175TFFF_R {ex : Ex} {x1 : Int32} {v2 : Value} {r1 : Int32} {w1 : Wd} {r2 : Int32} {w2 : Wd} {w : Wd} (h1 : ex 139 [.ref 34, .int (w.1 34 4)] w = some (some (.int r1), w1)) (h2 : ex 135 [.int r1, .int 48, .int 57] w1 = some (some (.int r2), w2)) (h3 : r2 = 0) (h4 : ¬ 99 < (w2.1 34 7)) (h5 : x1 = 48) (h6 : ¬ ((w2.1 34 4) - (w2.1 34 6)) ≤ 1) : runs (T_X9_advances ex) (175, [.ref 34, .int x1, v2, .null], [], w) = some (none, updI w2 34 5 4) := 
    (runs_stps (q' := (180, [.ref 34, .int x1, .null, .null], [.int (w.1 34 4), .ref 34], w)) 3 rfl).trans <|
    (runs_callV (rv := some (.int r1)) (w' := w1) rfl rfl rfl rfl h1).trans <|
    (runs_stps (q' := (187, [.ref 34, .int x1, .null, .null], [.int 57, .int 48, .int r1], w1)) 2 rfl).trans <|
    (runs_callS (rv := some (.int r2)) (w' := w2) rfl rfl rfl h2).trans <|
    (runs_if_t (a := 245) (b := 193) (L := [.ref 34, .int x1, .null, .null]) (st := []) (w := w2) rfl h3).trans <|
    (runs_stps (q' := (252, [.ref 34, .int x1, .null, .null], [.int 99, .int (w2.1 34 7), .ref 34], w2)) 4 rfl).trans <|
    (runs_if_f (a := 274) (b := 255) (L := [.ref 34, .int x1, .null, .null]) (st := [.ref 34]) (w := w2) rfl h4).trans <|
    (runs_stps (q' := (258, [.ref 34, .int x1, .null, .null], [.int 48, .int x1, .ref 34], w2)) 2 rfl).trans <|
    (runs_if_t (a := 261) (b := 278) (L := [.ref 34, .int x1, .null, .null]) (st := [.ref 34]) (w := w2) rfl h5).trans <|
    (runs_stps (q' := (271, [.ref 34, .int x1, .null, .null], [.int 1, .int ((w2.1 34 4) - (w2.1 34 6)), .ref 34], w2)) 6 rfl).trans <|
    (runs_if_f (a := 278) (b := 274) (L := [.ref 34, .int x1, .null, .null]) (st := [.ref 34]) (w := w2) rfl h6).trans <|
    (runs_stps (q' := (310, [.null, .null, .null, .null], [], updI w2 34 5 4)) 4 rfl).trans <|
    runs_ret rfl
theorem p_X9_advances_175FT_L175 {ex : Ex} {x1 : Int32} {v2 : Value} {r1 : Int32} {w1 : Wd} {r2 : Int32} {w2 : Wd} {r3 : Int32} {w3 : Wd} {w : Wd} (h1 : ex 139 [.ref 34, .int (w.1 34 4)] w = some (some (.int r1), w1)) (h2 : ex 135 [.int r1, .int 48, .int 57] w1 = some (some (.int r2), w2)) (h3 : ¬ r2 = 0) (h4 : (w2.1 34 7) ≤ 99) (h5 : ex 139 [.ref 34, .int (w2.1 34 4)] w2 = some (some (.int r3), w3)) : runs (T_X9_advances ex) (175, [.ref 34, .int x1, v2, .null], [], w) = runs (T_X9_advances ex) (175, [.ref 34, .int x1, .null, .null], [], updI (updI w3 34 7 (((10 * (w2.1 34 7)) + r3) - 48)) 34 4 ((w3.1 34 4) + 1)) := 
    (runs_stps (q' := (180, [.ref 34, .int x1, .null, .null], [.int (w.1 34 4), .ref 34], w)) 3 rfl).trans <|
    (runs_callV (rv := some (.int r1)) (w' := w1) rfl rfl rfl rfl h1).trans <|
    (runs_stps (q' := (187, [.ref 34, .int x1, .null, .null], [.int 57, .int 48, .int r1], w1)) 2 rfl).trans <|
    (runs_callS (rv := some (.int r2)) (w' := w2) rfl rfl rfl h2).trans <|
    (runs_if_f (a := 245) (b := 193) (L := [.ref 34, .int x1, .null, .null]) (st := []) (w := w2) rfl h3).trans <|
    (runs_stps (q' := (200, [.ref 34, .int x1, .null, .null], [.int 99, .int (w2.1 34 7), .ref 34], w2)) 4 rfl).trans <|
    (runs_if_t (a := 210) (b := 203) (L := [.ref 34, .int x1, .null, .null]) (st := [.ref 34]) (w := w2) rfl h4).trans <|
    (runs_stps (q' := (222, [.ref 34, .int x1, .null, .null], [.int (w2.1 34 4), .ref 34, .int (10 * (w2.1 34 7)), .ref 34], w2)) 7 rfl).trans <|
    (runs_callV (rv := some (.int r3)) (w' := w3) rfl rfl rfl rfl h5).trans <|
    (runs_stps (q' := (175, [.ref 34, .int x1, .null, .null], [], updI (updI w3 34 7 (((10 * (w2.1 34 7)) + r3) - 48)) 34 4 ((w3.1 34 4) + 1))) 11 rfl).trans <|
    rfl
theorem p_X9_advances_175FF_L175 {ex : Ex} {x1 : Int32} {v2 : Value} {r1 : Int32} {w1 : Wd} {r2 : Int32} {w2 : Wd} {w : Wd} (h1 : ex 139 [.ref 34, .int (w.1 34 4)] w = some (some (.int r1), w1)) (h2 : ex 135 [.int r1, .int 48, .int 57] w1 = some (some (.int r2), w2)) (h3 : ¬ r2 = 0) (h4 : ¬ (w2.1 34 7) ≤ 99) : runs (T_X9_advances ex) (175, [.ref 34, .int x1, v2, .null], [], w) = runs (T_X9_advances ex) (175, [.ref 34, .int x1, .null, .null], [], updI (updI w2 34 7 (w2.1 34 7)) 34 4 ((w2.1 34 4) + 1)) := 
    (runs_stps (q' := (180, [.ref 34, .int x1, .null, .null], [.int (w.1 34 4), .ref 34], w)) 3 rfl).trans <|
    (runs_callV (rv := some (.int r1)) (w' := w1) rfl rfl rfl rfl h1).trans <|
    (runs_stps (q' := (187, [.ref 34, .int x1, .null, .null], [.int 57, .int 48, .int r1], w1)) 2 rfl).trans <|
    (runs_callS (rv := some (.int r2)) (w' := w2) rfl rfl rfl h2).trans <|
    (runs_if_f (a := 245) (b := 193) (L := [.ref 34, .int x1, .null, .null]) (st := []) (w := w2) rfl h3).trans <|
    (runs_stps (q' := (200, [.ref 34, .int x1, .null, .null], [.int 99, .int (w2.1 34 7), .ref 34], w2)) 4 rfl).trans <|
    (runs_if_f (a := 210) (b := 203) (L := [.ref 34, .int x1, .null, .null]) (st := [.ref 34]) (w := w2) rfl h4).trans <|
    (runs_stps (q' := (175, [.ref 34, .int x1, .null, .null], [], updI (updI w2 34 7 (w2.1 34 7)) 34 4 ((w2.1 34 4) + 1))) 11 rfl).trans <|
    rfl
theorem p_X9_isWell_0T_R {ex : Ex} {w : Wd} (h1 : 0 ≤ (w.1 34 8)) : runs (T_X9_isWell ex) (0, [.ref 34], [], w) = some (some (.int 0), w) := 
    (runs_stps (q' := (4, [.ref 34], [.int (w.1 34 8)], w)) 2 rfl).trans <|
    (runs_if_t (a := 11) (b := 7) (L := [.ref 34]) (st := []) (w := w) rfl h1).trans <|
    (runs_stps (q' := (12, [.null], [.int 0], w)) 1 rfl).trans <|
    runs_ret rfl
theorem p_X9_isWell_0F_R {ex : Ex} {w : Wd} (h1 : ¬ 0 ≤ (w.1 34 8)) : runs (T_X9_isWell ex) (0, [.ref 34], [], w) = some (some (.int 1), w) := 
    (runs_stps (q' := (4, [.ref 34], [.int (w.1 34 8)], w)) 2 rfl).trans <|
    (runs_if_f (a := 11) (b := 7) (L := [.ref 34]) (st := []) (w := w) rfl h1).trans <|
    (runs_stps (q' := (12, [.ref 34], [.int 1], w)) 2 rfl).trans <|
    runs_ret rfl
theorem p_X9_takes_0TT_R {ex : Ex} {x1 : Int32} {r1 : Int32} {w1 : Wd} {w2 : Wd} {w : Wd} (h1 : ex 144 [.ref 34] w = some (some (.int r1), w1)) (h2 : ¬ r1 = 0) (h3 : ¬ x1 = 0) (h4 : ex 143 [.ref 34] w1 = some (none, w2)) : runs (T_X9_takes ex) (0, [.ref 34, .int x1, .null], [], w) = some (some (.int (w1.1 34 7)), w2) := 
    (runs_stps (q' := (1, [.ref 34, .int x1, .null], [.ref 34], w)) 1 rfl).trans <|
    (runs_callV (rv := some (.int r1)) (w' := w1) rfl rfl rfl rfl h1).trans <|
    (runs_if_f (a := 7) (b := 9) (L := [.ref 34, .int x1, .null]) (st := []) (w := w1) rfl h2).trans <|
    (runs_stps (q' := (10, [.ref 34, .int x1, .null], [.int x1], w1)) 1 rfl).trans <|
    (runs_if_f (a := 13) (b := 23) (L := [.ref 34, .int x1, .null]) (st := []) (w := w1) rfl h3).trans <|
    (runs_stps (q' := (29, [.ref 34, .null, .int (w1.1 34 7)], [.ref 34], w1)) 4 rfl).trans <|
    (runs_callV (rv := none) (w' := w2) rfl rfl rfl rfl h4).trans <|
    (runs_stps (q' := (33, [.ref 34, .null, .int (w1.1 34 7)], [.int (w1.1 34 7)], w2)) 1 rfl).trans <|
    runs_ret rfl
theorem p_X9_takes_0TF_R {ex : Ex} {x1 : Int32} {r1 : Int32} {w1 : Wd} {w : Wd} (h1 : ex 144 [.ref 34] w = some (some (.int r1), w1)) (h2 : ¬ r1 = 0) (h3 : x1 = 0) : runs (T_X9_takes ex) (0, [.ref 34, .int x1, .null], [], w) = some (some (.int 0), updI w1 34 8 (w1.1 34 6)) := 
    (runs_stps (q' := (1, [.ref 34, .int x1, .null], [.ref 34], w)) 1 rfl).trans <|
    (runs_callV (rv := some (.int r1)) (w' := w1) rfl rfl rfl rfl h1).trans <|
    (runs_if_f (a := 7) (b := 9) (L := [.ref 34, .int x1, .null]) (st := []) (w := w1) rfl h2).trans <|
    (runs_stps (q' := (10, [.ref 34, .int x1, .null], [.int x1], w1)) 1 rfl).trans <|
    (runs_if_t (a := 13) (b := 23) (L := [.ref 34, .int x1, .null]) (st := []) (w := w1) rfl h3).trans <|
    (runs_stps (q' := (22, [.ref 34, .int x1, .null], [.int 0], updI w1 34 8 (w1.1 34 6))) 5 rfl).trans <|
    runs_ret rfl
theorem p_X9_takes_0F_R {ex : Ex} {x1 : Int32} {r1 : Int32} {w1 : Wd} {w : Wd} (h1 : ex 144 [.ref 34] w = some (some (.int r1), w1)) (h2 : r1 = 0) : runs (T_X9_takes ex) (0, [.ref 34, .int x1, .null], [], w) = some (some (.int 0), w1) := 
    (runs_stps (q' := (1, [.ref 34, .int x1, .null], [.ref 34], w)) 1 rfl).trans <|
    (runs_callV (rv := some (.int r1)) (w' := w1) rfl rfl rfl rfl h1).trans <|
    (runs_if_t (a := 7) (b := 9) (L := [.ref 34, .int x1, .null]) (st := []) (w := w1) rfl h2).trans <|
    (runs_stps (q' := (8, [.ref 34, .int x1, .null], [.int 0], w1)) 1 rfl).trans <|
    runs_ret rfl
theorem p_X9_number_0T_R {ex : Ex} {x1 : Int32} {x2 : Int32} {r1 : Int32} {w1 : Wd} {w : Wd} (h1 : ¬ (w.1 34 5) = 2) (h2 : ex 145 [.ref 34, .int 0] w = some (some (.int r1), w1)) : runs (T_X9_number ex) (0, [.ref 34, .int x1, .int x2], [], w) = some (some (.int r1), w1) := 
    (runs_stps (q' := (6, [.ref 34, .int x1, .int x2], [.int 2, .int (w.1 34 5), .ref 34], w)) 4 rfl).trans <|
    (runs_if_f (a := 9) (b := 25) (L := [.ref 34, .int x1, .int x2]) (st := [.ref 34]) (w := w) rfl h1).trans <|
    (runs_stps (q' := (26, [.null, .null, .null], [.int 0, .ref 34], w)) 1 rfl).trans <|
    (runs_callVf (rv := some (.int r1)) (w' := w1) rfl rfl rfl rfl h2).trans <|
    runs_ret rfl
theorem p_X9_number_0FT_R {ex : Ex} {x1 : Int32} {x2 : Int32} {r1 : Int32} {w1 : Wd} {r2 : Int32} {w2 : Wd} {w : Wd} (h1 : (w.1 34 5) = 2) (h2 : ex 135 [.int (w.1 34 7), .int x1, .int x2] w = some (some (.int r1), w1)) (h3 : r1 = 0) (h4 : ex 145 [.ref 34, .int 0] w1 = some (some (.int r2), w2)) : runs (T_X9_number ex) (0, [.ref 34, .int x1, .int x2], [], w) = some (some (.int r2), w2) := 
    (runs_stps (q' := (6, [.ref 34, .int x1, .int x2], [.int 2, .int (w.1 34 5), .ref 34], w)) 4 rfl).trans <|
    (runs_if_t (a := 9) (b := 25) (L := [.ref 34, .int x1, .int x2]) (st := [.ref 34]) (w := w) rfl h1).trans <|
    (runs_stps (q' := (15, [.ref 34, .int x1, .int x2], [.int x2, .int x1, .int (w.1 34 7), .ref 34], w)) 4 rfl).trans <|
    (runs_callS (rv := some (.int r1)) (w' := w1) rfl rfl rfl h2).trans <|
    (runs_if_t (a := 25) (b := 21) (L := [.ref 34, .int x1, .int x2]) (st := [.ref 34]) (w := w1) rfl h3).trans <|
    (runs_stps (q' := (26, [.null, .null, .null], [.int 0, .ref 34], w1)) 1 rfl).trans <|
    (runs_callVf (rv := some (.int r2)) (w' := w2) rfl rfl rfl rfl h4).trans <|
    runs_ret rfl
theorem p_X9_number_0FF_R {ex : Ex} {x1 : Int32} {x2 : Int32} {r1 : Int32} {w1 : Wd} {r2 : Int32} {w2 : Wd} {w : Wd} (h1 : (w.1 34 5) = 2) (h2 : ex 135 [.int (w.1 34 7), .int x1, .int x2] w = some (some (.int r1), w1)) (h3 : ¬ r1 = 0) (h4 : ex 145 [.ref 34, .int 1] w1 = some (some (.int r2), w2)) : runs (T_X9_number ex) (0, [.ref 34, .int x1, .int x2], [], w) = some (some (.int r2), w2) := 
    (runs_stps (q' := (6, [.ref 34, .int x1, .int x2], [.int 2, .int (w.1 34 5), .ref 34], w)) 4 rfl).trans <|
    (runs_if_t (a := 9) (b := 25) (L := [.ref 34, .int x1, .int x2]) (st := [.ref 34]) (w := w) rfl h1).trans <|
    (runs_stps (q' := (15, [.ref 34, .int x1, .int x2], [.int x2, .int x1, .int (w.1 34 7), .ref 34], w)) 4 rfl).trans <|
    (runs_callS (rv := some (.int r1)) (w' := w1) rfl rfl rfl h2).trans <|
    (runs_if_f (a := 25) (b := 21) (L := [.ref 34, .int x1, .int x2]) (st := [.ref 34]) (w := w1) rfl h3).trans <|
    (runs_stps (q' := (26, [.ref 34, .int x1, .int x2], [.int 1, .ref 34], w1)) 2 rfl).trans <|
    (runs_callVf (rv := some (.int r2)) (w' := w2) rfl rfl rfl rfl h4).trans <|
    runs_ret rfl
theorem p_X9_mayBegin_0TT_R {ex : Ex} {w : Wd} (h1 : 3 ≤ (w.1 34 7)) (h2 : vp_in (6 + (w.1 34 7)) 12) (h3 : ¬ (w.1 39 ((6 + (w.1 34 7)).toNatClampNeg)) = (-9)) : runs (T_X9_mayBegin ex) (0, [.ref 34], [], w) = some (some (.int 0), w) := 
    (runs_stps (q' := (5, [.ref 34], [.int 3, .int (w.1 34 7)], w)) 3 rfl).trans <|
    (runs_if_t (a := 69) (b := 8) (L := [.ref 34]) (st := []) (w := w) rfl h1).trans <|
    (runs_stps (q' := (80, [.ref 34], [.int (6 + (w.1 34 7)), .ref 39], w)) 6 rfl).trans <|
    (runs_ck (q' := (81, [.ref 34], [.int (w.1 39 ((6 + (w.1 34 7)).toNatClampNeg))], w)) rfl h2).trans <|
    (runs_stps (q' := (83, [.ref 34], [.int (-9), .int (w.1 39 ((6 + (w.1 34 7)).toNatClampNeg))], w)) 1 rfl).trans <|
    (runs_if_f (a := 86) (b := 90) (L := [.ref 34]) (st := []) (w := w) rfl h3).trans <|
    (runs_stps (q' := (91, [.null], [.int 0], w)) 1 rfl).trans <|
    runs_ret rfl
theorem p_X9_mayBegin_0TF_R {ex : Ex} {w : Wd} (h1 : 3 ≤ (w.1 34 7)) (h2 : vp_in (6 + (w.1 34 7)) 12) (h3 : (w.1 39 ((6 + (w.1 34 7)).toNatClampNeg)) = (-9)) : runs (T_X9_mayBegin ex) (0, [.ref 34], [], w) = some (some (.int 1), w) := 
    (runs_stps (q' := (5, [.ref 34], [.int 3, .int (w.1 34 7)], w)) 3 rfl).trans <|
    (runs_if_t (a := 69) (b := 8) (L := [.ref 34]) (st := []) (w := w) rfl h1).trans <|
    (runs_stps (q' := (80, [.ref 34], [.int (6 + (w.1 34 7)), .ref 39], w)) 6 rfl).trans <|
    (runs_ck (q' := (81, [.ref 34], [.int (w.1 39 ((6 + (w.1 34 7)).toNatClampNeg))], w)) rfl h2).trans <|
    (runs_stps (q' := (83, [.ref 34], [.int (-9), .int (w.1 39 ((6 + (w.1 34 7)).toNatClampNeg))], w)) 1 rfl).trans <|
    (runs_if_t (a := 86) (b := 90) (L := [.ref 34]) (st := []) (w := w) rfl h3).trans <|
    (runs_stps (q' := (91, [.ref 34], [.int 1], w)) 2 rfl).trans <|
    runs_ret rfl
theorem p_X9_mayBegin_0FTTT_R {ex : Ex} {w : Wd} (h1 : ¬ 3 ≤ (w.1 34 7)) (h2 : ¬ (w.1 34 7) = 0) (h3 : ¬ (w.1 34 7) = 1) (h4 : 3 ≤ (w.1 34 18)) : runs (T_X9_mayBegin ex) (0, [.ref 34], [], w) = some (some (.int 0), w) := 
    (runs_stps (q' := (5, [.ref 34], [.int 3, .int (w.1 34 7)], w)) 3 rfl).trans <|
    (runs_if_f (a := 69) (b := 8) (L := [.ref 34]) (st := []) (w := w) rfl h1).trans <|
    (runs_stps (q' := (12, [.ref 34], [.int (w.1 34 7)], w)) 2 rfl).trans <|
    (runs_if_f (a := 15) (b := 31) (L := [.ref 34]) (st := []) (w := w) rfl h2).trans <|
    (runs_stps (q' := (36, [.ref 34], [.int 1, .int (w.1 34 7)], w)) 3 rfl).trans <|
    (runs_if_f (a := 39) (b := 55) (L := [.ref 34]) (st := []) (w := w) rfl h3).trans <|
    (runs_stps (q' := (60, [.ref 34], [.int 3, .int (w.1 34 18)], w)) 3 rfl).trans <|
    (runs_if_t (a := 67) (b := 63) (L := [.ref 34]) (st := []) (w := w) rfl h4).trans <|
    (runs_stps (q' := (68, [.null], [.int 0], w)) 1 rfl).trans <|
    runs_ret rfl
theorem p_X9_mayBegin_0FTTF_R {ex : Ex} {w : Wd} (h1 : ¬ 3 ≤ (w.1 34 7)) (h2 : ¬ (w.1 34 7) = 0) (h3 : ¬ (w.1 34 7) = 1) (h4 : ¬ 3 ≤ (w.1 34 18)) : runs (T_X9_mayBegin ex) (0, [.ref 34], [], w) = some (some (.int 1), w) := 
    (runs_stps (q' := (5, [.ref 34], [.int 3, .int (w.1 34 7)], w)) 3 rfl).trans <|
    (runs_if_f (a := 69) (b := 8) (L := [.ref 34]) (st := []) (w := w) rfl h1).trans <|
    (runs_stps (q' := (12, [.ref 34], [.int (w.1 34 7)], w)) 2 rfl).trans <|
    (runs_if_f (a := 15) (b := 31) (L := [.ref 34]) (st := []) (w := w) rfl h2).trans <|
    (runs_stps (q' := (36, [.ref 34], [.int 1, .int (w.1 34 7)], w)) 3 rfl).trans <|
    (runs_if_f (a := 39) (b := 55) (L := [.ref 34]) (st := []) (w := w) rfl h3).trans <|
    (runs_stps (q' := (60, [.ref 34], [.int 3, .int (w.1 34 18)], w)) 3 rfl).trans <|
    (runs_if_f (a := 67) (b := 63) (L := [.ref 34]) (st := []) (w := w) rfl h4).trans <|
    (runs_stps (q' := (68, [.ref 34], [.int 1], w)) 2 rfl).trans <|
    runs_ret rfl
theorem p_X9_mayBegin_0FTFT_R {ex : Ex} {w : Wd} (h1 : ¬ 3 ≤ (w.1 34 7)) (h2 : ¬ (w.1 34 7) = 0) (h3 : (w.1 34 7) = 1) (h4 : 4 ≤ (w.1 34 17)) : runs (T_X9_mayBegin ex) (0, [.ref 34], [], w) = some (some (.int 0), w) := 
    (runs_stps (q' := (5, [.ref 34], [.int 3, .int (w.1 34 7)], w)) 3 rfl).trans <|
    (runs_if_f (a := 69) (b := 8) (L := [.ref 34]) (st := []) (w := w) rfl h1).trans <|
    (runs_stps (q' := (12, [.ref 34], [.int (w.1 34 7)], w)) 2 rfl).trans <|
    (runs_if_f (a := 15) (b := 31) (L := [.ref 34]) (st := []) (w := w) rfl h2).trans <|
    (runs_stps (q' := (36, [.ref 34], [.int 1, .int (w.1 34 7)], w)) 3 rfl).trans <|
    (runs_if_t (a := 39) (b := 55) (L := [.ref 34]) (st := []) (w := w) rfl h3).trans <|
    (runs_stps (q' := (44, [.ref 34], [.int 4, .int (w.1 34 17)], w)) 3 rfl).trans <|
    (runs_if_t (a := 51) (b := 47) (L := [.ref 34]) (st := []) (w := w) rfl h4).trans <|
    (runs_stps (q' := (68, [.null], [.int 0], w)) 2 rfl).trans <|
    runs_ret rfl
theorem p_X9_mayBegin_0FTFF_R {ex : Ex} {w : Wd} (h1 : ¬ 3 ≤ (w.1 34 7)) (h2 : ¬ (w.1 34 7) = 0) (h3 : (w.1 34 7) = 1) (h4 : ¬ 4 ≤ (w.1 34 17)) : runs (T_X9_mayBegin ex) (0, [.ref 34], [], w) = some (some (.int 1), w) := 
    (runs_stps (q' := (5, [.ref 34], [.int 3, .int (w.1 34 7)], w)) 3 rfl).trans <|
    (runs_if_f (a := 69) (b := 8) (L := [.ref 34]) (st := []) (w := w) rfl h1).trans <|
    (runs_stps (q' := (12, [.ref 34], [.int (w.1 34 7)], w)) 2 rfl).trans <|
    (runs_if_f (a := 15) (b := 31) (L := [.ref 34]) (st := []) (w := w) rfl h2).trans <|
    (runs_stps (q' := (36, [.ref 34], [.int 1, .int (w.1 34 7)], w)) 3 rfl).trans <|
    (runs_if_t (a := 39) (b := 55) (L := [.ref 34]) (st := []) (w := w) rfl h3).trans <|
    (runs_stps (q' := (44, [.ref 34], [.int 4, .int (w.1 34 17)], w)) 3 rfl).trans <|
    (runs_if_f (a := 51) (b := 47) (L := [.ref 34]) (st := []) (w := w) rfl h4).trans <|
    (runs_stps (q' := (68, [.ref 34], [.int 1], w)) 2 rfl).trans <|
    runs_ret rfl
theorem p_X9_mayBegin_0FFT_R {ex : Ex} {w : Wd} (h1 : ¬ 3 ≤ (w.1 34 7)) (h2 : (w.1 34 7) = 0) (h3 : 5 ≤ (w.1 34 16)) : runs (T_X9_mayBegin ex) (0, [.ref 34], [], w) = some (some (.int 0), w) := 
    (runs_stps (q' := (5, [.ref 34], [.int 3, .int (w.1 34 7)], w)) 3 rfl).trans <|
    (runs_if_f (a := 69) (b := 8) (L := [.ref 34]) (st := []) (w := w) rfl h1).trans <|
    (runs_stps (q' := (12, [.ref 34], [.int (w.1 34 7)], w)) 2 rfl).trans <|
    (runs_if_t (a := 15) (b := 31) (L := [.ref 34]) (st := []) (w := w) rfl h2).trans <|
    (runs_stps (q' := (20, [.ref 34], [.int 5, .int (w.1 34 16)], w)) 3 rfl).trans <|
    (runs_if_t (a := 27) (b := 23) (L := [.ref 34]) (st := []) (w := w) rfl h3).trans <|
    (runs_stps (q' := (68, [.null], [.int 0], w)) 2 rfl).trans <|
    runs_ret rfl
theorem p_X9_mayBegin_0FFF_R {ex : Ex} {w : Wd} (h1 : ¬ 3 ≤ (w.1 34 7)) (h2 : (w.1 34 7) = 0) (h3 : ¬ 5 ≤ (w.1 34 16)) : runs (T_X9_mayBegin ex) (0, [.ref 34], [], w) = some (some (.int 1), w) := 
    (runs_stps (q' := (5, [.ref 34], [.int 3, .int (w.1 34 7)], w)) 3 rfl).trans <|
    (runs_if_f (a := 69) (b := 8) (L := [.ref 34]) (st := []) (w := w) rfl h1).trans <|
    (runs_stps (q' := (12, [.ref 34], [.int (w.1 34 7)], w)) 2 rfl).trans <|
    (runs_if_t (a := 15) (b := 31) (L := [.ref 34]) (st := []) (w := w) rfl h2).trans <|
    (runs_stps (q' := (20, [.ref 34], [.int 5, .int (w.1 34 16)], w)) 3 rfl).trans <|
    (runs_if_f (a := 27) (b := 23) (L := [.ref 34]) (st := []) (w := w) rfl h3).trans <|
    (runs_stps (q' := (68, [.ref 34], [.int 1], w)) 2 rfl).trans <|
    runs_ret rfl
theorem p_X9_readsItem_0TTTTT_R {ex : Ex} {x1 : Int32} {r1 : Int32} {w1 : Wd} {w : Wd} (h1 : ¬ x1 = 0) (h2 : ¬ x1 = 1) (h3 : ¬ x1 = 2) (h4 : ¬ x1 = 5) (h5 : ¬ x1 = 5) (h6 : ex 146 [.ref 34, .int 0, .int 9] w = some (some (.int r1), w1)) (h7 : vp_in (6 + x1) 12) : runs (T_X9_readsItem ex) (0, [.ref 34, .int x1, .null, .null], [], w) = some (none, updI w1 39 ((6 + x1).toNatClampNeg) r1) := 
    (runs_stps (q' := (1, [.ref 34, .int x1, .null, .null], [.int x1], w)) 1 rfl).trans <|
    (runs_if_f (a := 4) (b := 84) (L := [.ref 34, .int x1, .null, .null]) (st := []) (w := w) rfl h1).trans <|
    (runs_stps (q' := (86, [.ref 34, .int x1, .null, .null], [.int 1, .int x1], w)) 2 rfl).trans <|
    (runs_if_f (a := 89) (b := 163) (L := [.ref 34, .int x1, .null, .null]) (st := []) (w := w) rfl h2).trans <|
    (runs_stps (q' := (165, [.ref 34, .int x1, .null, .null], [.int 2, .int x1], w)) 2 rfl).trans <|
    (runs_if_f (a := 168) (b := 205) (L := [.ref 34, .int x1, .null, .null]) (st := []) (w := w) rfl h3).trans <|
    (runs_stps (q' := (216, [.ref 34, .int x1, .null, .null], [.int 5, .int x1, .ref 34, .int (6 + x1), .ref 39], w)) 8 rfl).trans <|
    (runs_if_f (a := 219) (b := 223) (L := [.ref 34, .int x1, .null, .null]) (st := [.ref 34, .int (6 + x1), .ref 39]) (w := w) rfl h4).trans <|
    (runs_stps (q' := (226, [.null, .int x1, .null, .null], [.int 5, .int x1, .int 0, .ref 34, .int (6 + x1), .ref 39], w)) 3 rfl).trans <|
    (runs_if_f (a := 229) (b := 233) (L := [.null, .int x1, .null, .null]) (st := [.int 0, .ref 34, .int (6 + x1), .ref 39]) (w := w) rfl h5).trans <|
    (runs_stps (q' := (235, [.null, .null, .null, .null], [.int 9, .int 0, .ref 34, .int (6 + x1), .ref 39], w)) 1 rfl).trans <|
    (runs_callVf (rv := some (.int r1)) (w' := w1) rfl rfl rfl rfl h6).trans <|
    (runs_ck (q' := (239, [.null, .null, .null, .null], [], updI w1 39 ((6 + x1).toNatClampNeg) r1)) rfl h7).trans <|
    runs_ret rfl
theorem p_X9_readsItem_0TTTTF_R {ex : Ex} {x1 : Int32} {r1 : Int32} {w1 : Wd} {w : Wd} (h1 : ¬ x1 = 0) (h2 : ¬ x1 = 1) (h3 : ¬ x1 = 2) (h4 : ¬ x1 = 5) (h5 : x1 = 5) (h6 : ex 146 [.ref 34, .int 0, .int 5] w = some (some (.int r1), w1)) (h7 : vp_in (6 + x1) 12) : runs (T_X9_readsItem ex) (0, [.ref 34, .int x1, .null, .null], [], w) = some (none, updI w1 39 ((6 + x1).toNatClampNeg) r1) := 
    (runs_stps (q' := (1, [.ref 34, .int x1, .null, .null], [.int x1], w)) 1 rfl).trans <|
    (runs_if_f (a := 4) (b := 84) (L := [.ref 34, .int x1, .null, .null]) (st := []) (w := w) rfl h1).trans <|
    (runs_stps (q' := (86, [.ref 34, .int x1, .null, .null], [.int 1, .int x1], w)) 2 rfl).trans <|
    (runs_if_f (a := 89) (b := 163) (L := [.ref 34, .int x1, .null, .null]) (st := []) (w := w) rfl h2).trans <|
    (runs_stps (q' := (165, [.ref 34, .int x1, .null, .null], [.int 2, .int x1], w)) 2 rfl).trans <|
    (runs_if_f (a := 168) (b := 205) (L := [.ref 34, .int x1, .null, .null]) (st := []) (w := w) rfl h3).trans <|
    (runs_stps (q' := (216, [.ref 34, .int x1, .null, .null], [.int 5, .int x1, .ref 34, .int (6 + x1), .ref 39], w)) 8 rfl).trans <|
    (runs_if_f (a := 219) (b := 223) (L := [.ref 34, .int x1, .null, .null]) (st := [.ref 34, .int (6 + x1), .ref 39]) (w := w) rfl h4).trans <|
    (runs_stps (q' := (226, [.null, .int x1, .null, .null], [.int 5, .int x1, .int 0, .ref 34, .int (6 + x1), .ref 39], w)) 3 rfl).trans <|
    (runs_if_t (a := 229) (b := 233) (L := [.null, .int x1, .null, .null]) (st := [.int 0, .ref 34, .int (6 + x1), .ref 39]) (w := w) rfl h5).trans <|
    (runs_stps (q' := (235, [.null, .int x1, .null, .null], [.int 5, .int 0, .ref 34, .int (6 + x1), .ref 39], w)) 2 rfl).trans <|
    (runs_callVf (rv := some (.int r1)) (w' := w1) rfl rfl rfl rfl h6).trans <|
    (runs_ck (q' := (239, [.null, .null, .null, .null], [], updI w1 39 ((6 + x1).toNatClampNeg) r1)) rfl h7).trans <|
    runs_ret rfl
theorem p_X9_readsItem_0TTTFT_R {ex : Ex} {x1 : Int32} {r1 : Int32} {w1 : Wd} {w : Wd} (h1 : ¬ x1 = 0) (h2 : ¬ x1 = 1) (h3 : ¬ x1 = 2) (h4 : x1 = 5) (h5 : ¬ x1 = 5) (h6 : ex 146 [.ref 34, .int 1, .int 9] w = some (some (.int r1), w1)) (h7 : vp_in (6 + x1) 12) : runs (T_X9_readsItem ex) (0, [.ref 34, .int x1, .null, .null], [], w) = some (none, updI w1 39 ((6 + x1).toNatClampNeg) r1) := 
    (runs_stps (q' := (1, [.ref 34, .int x1, .null, .null], [.int x1], w)) 1 rfl).trans <|
    (runs_if_f (a := 4) (b := 84) (L := [.ref 34, .int x1, .null, .null]) (st := []) (w := w) rfl h1).trans <|
    (runs_stps (q' := (86, [.ref 34, .int x1, .null, .null], [.int 1, .int x1], w)) 2 rfl).trans <|
    (runs_if_f (a := 89) (b := 163) (L := [.ref 34, .int x1, .null, .null]) (st := []) (w := w) rfl h2).trans <|
    (runs_stps (q' := (165, [.ref 34, .int x1, .null, .null], [.int 2, .int x1], w)) 2 rfl).trans <|
    (runs_if_f (a := 168) (b := 205) (L := [.ref 34, .int x1, .null, .null]) (st := []) (w := w) rfl h3).trans <|
    (runs_stps (q' := (216, [.ref 34, .int x1, .null, .null], [.int 5, .int x1, .ref 34, .int (6 + x1), .ref 39], w)) 8 rfl).trans <|
    (runs_if_t (a := 219) (b := 223) (L := [.ref 34, .int x1, .null, .null]) (st := [.ref 34, .int (6 + x1), .ref 39]) (w := w) rfl h4).trans <|
    (runs_stps (q' := (226, [.null, .int x1, .null, .null], [.int 5, .int x1, .int 1, .ref 34, .int (6 + x1), .ref 39], w)) 4 rfl).trans <|
    (runs_if_f (a := 229) (b := 233) (L := [.null, .int x1, .null, .null]) (st := [.int 1, .ref 34, .int (6 + x1), .ref 39]) (w := w) rfl h5).trans <|
    (runs_stps (q' := (235, [.null, .null, .null, .null], [.int 9, .int 1, .ref 34, .int (6 + x1), .ref 39], w)) 1 rfl).trans <|
    (runs_callVf (rv := some (.int r1)) (w' := w1) rfl rfl rfl rfl h6).trans <|
    (runs_ck (q' := (239, [.null, .null, .null, .null], [], updI w1 39 ((6 + x1).toNatClampNeg) r1)) rfl h7).trans <|
    runs_ret rfl
theorem p_X9_readsItem_0TTTFF_R {ex : Ex} {x1 : Int32} {r1 : Int32} {w1 : Wd} {w : Wd} (h1 : ¬ x1 = 0) (h2 : ¬ x1 = 1) (h3 : ¬ x1 = 2) (h4 : x1 = 5) (h5 : x1 = 5) (h6 : ex 146 [.ref 34, .int 1, .int 5] w = some (some (.int r1), w1)) (h7 : vp_in (6 + x1) 12) : runs (T_X9_readsItem ex) (0, [.ref 34, .int x1, .null, .null], [], w) = some (none, updI w1 39 ((6 + x1).toNatClampNeg) r1) := 
    (runs_stps (q' := (1, [.ref 34, .int x1, .null, .null], [.int x1], w)) 1 rfl).trans <|
    (runs_if_f (a := 4) (b := 84) (L := [.ref 34, .int x1, .null, .null]) (st := []) (w := w) rfl h1).trans <|
    (runs_stps (q' := (86, [.ref 34, .int x1, .null, .null], [.int 1, .int x1], w)) 2 rfl).trans <|
    (runs_if_f (a := 89) (b := 163) (L := [.ref 34, .int x1, .null, .null]) (st := []) (w := w) rfl h2).trans <|
    (runs_stps (q' := (165, [.ref 34, .int x1, .null, .null], [.int 2, .int x1], w)) 2 rfl).trans <|
    (runs_if_f (a := 168) (b := 205) (L := [.ref 34, .int x1, .null, .null]) (st := []) (w := w) rfl h3).trans <|
    (runs_stps (q' := (216, [.ref 34, .int x1, .null, .null], [.int 5, .int x1, .ref 34, .int (6 + x1), .ref 39], w)) 8 rfl).trans <|
    (runs_if_t (a := 219) (b := 223) (L := [.ref 34, .int x1, .null, .null]) (st := [.ref 34, .int (6 + x1), .ref 39]) (w := w) rfl h4).trans <|
    (runs_stps (q' := (226, [.null, .int x1, .null, .null], [.int 5, .int x1, .int 1, .ref 34, .int (6 + x1), .ref 39], w)) 4 rfl).trans <|
    (runs_if_t (a := 229) (b := 233) (L := [.null, .int x1, .null, .null]) (st := [.int 1, .ref 34, .int (6 + x1), .ref 39]) (w := w) rfl h5).trans <|
    (runs_stps (q' := (235, [.null, .int x1, .null, .null], [.int 5, .int 1, .ref 34, .int (6 + x1), .ref 39], w)) 2 rfl).trans <|
    (runs_callVf (rv := some (.int r1)) (w' := w1) rfl rfl rfl rfl h6).trans <|
    (runs_ck (q' := (239, [.null, .null, .null, .null], [], updI w1 39 ((6 + x1).toNatClampNeg) r1)) rfl h7).trans <|
    runs_ret rfl
theorem p_X9_readsItem_0TTF_R {ex : Ex} {x1 : Int32} {r1 : Int32} {w1 : Wd} {w : Wd} (h1 : ¬ x1 = 0) (h2 : ¬ x1 = 1) (h3 : x1 = 2) (h4 : ex 146 [.ref 34, .int 0, .int ((1 <<< ((w.1 34 16) &&& 31)) - 1)] w = some (some (.int r1), w1)) (h5 : vp_in (3 + (w.1 34 18)) 6) : runs (T_X9_readsItem ex) (0, [.ref 34, .int x1, .null, .null], [], w) = some (none, updI (updI w1 38 ((3 + (w.1 34 18)).toNatClampNeg) r1) 34 18 ((w1.1 34 18) + 1)) := 
    (runs_stps (q' := (1, [.ref 34, .int x1, .null, .null], [.int x1], w)) 1 rfl).trans <|
    (runs_if_f (a := 4) (b := 84) (L := [.ref 34, .int x1, .null, .null]) (st := []) (w := w) rfl h1).trans <|
    (runs_stps (q' := (86, [.ref 34, .int x1, .null, .null], [.int 1, .int x1], w)) 2 rfl).trans <|
    (runs_if_f (a := 89) (b := 163) (L := [.ref 34, .int x1, .null, .null]) (st := []) (w := w) rfl h2).trans <|
    (runs_stps (q' := (165, [.ref 34, .int x1, .null, .null], [.int 2, .int x1], w)) 2 rfl).trans <|
    (runs_if_t (a := 168) (b := 205) (L := [.ref 34, .int x1, .null, .null]) (st := []) (w := w) rfl h3).trans <|
    (runs_stps (q' := (188, [.ref 34, .int x1, .null, .null], [.int ((1 <<< ((w.1 34 16) &&& 31)) - 1), .int 0, .ref 34, .int (3 + (w.1 34 18)), .ref 38], w)) 14 rfl).trans <|
    (runs_callV (rv := some (.int r1)) (w' := w1) rfl rfl rfl rfl h4).trans <|
    (runs_ck (q' := (192, [.ref 34, .int x1, .null, .null], [], updI w1 38 ((3 + (w.1 34 18)).toNatClampNeg) r1)) rfl h5).trans <|
    (runs_stps (q' := (239, [.ref 34, .int x1, .null, .null], [], updI (updI w1 38 ((3 + (w.1 34 18)).toNatClampNeg) r1) 34 18 ((w1.1 34 18) + 1))) 7 rfl).trans <|
    runs_ret rfl
theorem p_X9_readsItem_0TF_L93 {ex : Ex} {x1 : Int32} {w : Wd} (h1 : ¬ x1 = 0) (h2 : x1 = 1) : runs (T_X9_readsItem ex) (0, [.ref 34, .int x1, .null, .null], [], w) = runs (T_X9_readsItem ex) (93, [.ref 34, .int x1, .int 0, .int 0], [], w) := 
    (runs_stps (q' := (1, [.ref 34, .int x1, .null, .null], [.int x1], w)) 1 rfl).trans <|
    (runs_if_f (a := 4) (b := 84) (L := [.ref 34, .int x1, .null, .null]) (st := []) (w := w) rfl h1).trans <|
    (runs_stps (q' := (86, [.ref 34, .int x1, .null, .null], [.int 1, .int x1], w)) 2 rfl).trans <|
    (runs_if_t (a := 89) (b := 163) (L := [.ref 34, .int x1, .null, .null]) (st := []) (w := w) rfl h2).trans <|
    (runs_stps (q' := (93, [.ref 34, .int x1, .int 0, .int 0], [], w)) 4 rfl).trans <|
    rfl
theorem p_X9_readsItem_0F_R {ex : Ex} {x1 : Int32} {r1 : Int32} {w1 : Wd} {r2 : Int32} {w2 : Wd} {r3 : Int32} {w3 : Wd} {r4 : Int32} {w4 : Wd} {w : Wd} (h1 : x1 = 0) (h2 : ex 146 [.ref 34, .int 0, .int 9] w = some (some (.int r1), w1)) (h3 : vp_in (20 + (4 * (w.1 34 16))) 40) (h4 : ex 146 [.ref 34, .int 0, .int 1] (updI w1 36 ((20 + (4 * (w.1 34 16))).toNatClampNeg) r1) = some (some (.int r2), w2)) (h5 : vp_in ((20 + (4 * (w.1 34 16))) + 1) 40) (h6 : ex 146 [.ref 34, .int 0, .int 9] (updI w2 36 (((20 + (4 * (w.1 34 16))) + 1).toNatClampNeg) r2) = some (some (.int r3), w3)) (h7 : vp_in ((20 + (4 * (w.1 34 16))) + 2) 40) (h8 : ex 146 [.ref 34, .int 0, .int 9] (updI w3 36 (((20 + (4 * (w.1 34 16))) + 2).toNatClampNeg) r3) = some (some (.int r4), w4)) (h9 : vp_in ((20 + (4 * (w.1 34 16))) + 3) 40) : runs (T_X9_readsItem ex) (0, [.ref 34, .int x1, .null, .null], [], w) = some (none, updI (updI w4 36 (((20 + (4 * (w.1 34 16))) + 3).toNatClampNeg) r4) 34 16 ((w4.1 34 16) + 1)) := 
    (runs_stps (q' := (1, [.ref 34, .int x1, .null, .null], [.int x1], w)) 1 rfl).trans <|
    (runs_if_t (a := 4) (b := 84) (L := [.ref 34, .int x1, .null, .null]) (st := []) (w := w) rfl h1).trans <|
    (runs_stps (q' := (23, [.ref 34, .int x1, .int (20 + (4 * (w.1 34 16))), .null], [.int 9, .int 0, .ref 34, .int (20 + (4 * (w.1 34 16))), .ref 36], w)) 13 rfl).trans <|
    (runs_callV (rv := some (.int r1)) (w' := w1) rfl rfl rfl rfl h2).trans <|
    (runs_ck (q' := (27, [.ref 34, .int x1, .int (20 + (4 * (w.1 34 16))), .null], [], updI w1 36 ((20 + (4 * (w.1 34 16))).toNatClampNeg) r1)) rfl h3).trans <|
    (runs_stps (q' := (37, [.ref 34, .int x1, .int (20 + (4 * (w.1 34 16))), .null], [.int 1, .int 0, .ref 34, .int ((20 + (4 * (w.1 34 16))) + 1), .ref 36], updI w1 36 ((20 + (4 * (w.1 34 16))).toNatClampNeg) r1)) 8 rfl).trans <|
    (runs_callV (rv := some (.int r2)) (w' := w2) rfl rfl rfl rfl h4).trans <|
    (runs_ck (q' := (41, [.ref 34, .int x1, .int (20 + (4 * (w.1 34 16))), .null], [], updI w2 36 (((20 + (4 * (w.1 34 16))) + 1).toNatClampNeg) r2)) rfl h5).trans <|
    (runs_stps (q' := (52, [.ref 34, .int x1, .int (20 + (4 * (w.1 34 16))), .null], [.int 9, .int 0, .ref 34, .int ((20 + (4 * (w.1 34 16))) + 2), .ref 36], updI w2 36 (((20 + (4 * (w.1 34 16))) + 1).toNatClampNeg) r2)) 8 rfl).trans <|
    (runs_callV (rv := some (.int r3)) (w' := w3) rfl rfl rfl rfl h6).trans <|
    (runs_ck (q' := (56, [.ref 34, .int x1, .int (20 + (4 * (w.1 34 16))), .null], [], updI w3 36 (((20 + (4 * (w.1 34 16))) + 2).toNatClampNeg) r3)) rfl h7).trans <|
    (runs_stps (q' := (67, [.ref 34, .int x1, .int (20 + (4 * (w.1 34 16))), .null], [.int 9, .int 0, .ref 34, .int ((20 + (4 * (w.1 34 16))) + 3), .ref 36], updI w3 36 (((20 + (4 * (w.1 34 16))) + 2).toNatClampNeg) r3)) 8 rfl).trans <|
    (runs_callV (rv := some (.int r4)) (w' := w4) rfl rfl rfl rfl h8).trans <|
    (runs_ck (q' := (71, [.ref 34, .int x1, .int (20 + (4 * (w.1 34 16))), .null], [], updI w4 36 (((20 + (4 * (w.1 34 16))) + 3).toNatClampNeg) r4)) rfl h9).trans <|
    (runs_stps (q' := (239, [.ref 34, .int x1, .int (20 + (4 * (w.1 34 16))), .null], [], updI (updI w4 36 (((20 + (4 * (w.1 34 16))) + 3).toNatClampNeg) r4) 34 16 ((w4.1 34 16) + 1))) 7 rfl).trans <|
    runs_ret rfl
theorem p_X9_readsItem_93T_R {ex : Ex} {v1 : Value} {x2 : Int32} {x3 : Int32} {w : Wd} (h1 : 5 ≤ x3) (h2 : vp_in (4 + (w.1 34 17)) 8) : runs (T_X9_readsItem ex) (93, [.ref 34, v1, .int x2, .int x3], [], w) = some (none, updI (updI w 37 ((4 + (w.1 34 17)).toNatClampNeg) x2) 34 17 ((w.1 34 17) + 1)) := 
    (runs_stps (q' := (95, [.ref 34, .null, .int x2, .int x3], [.int 5, .int x3], w)) 2 rfl).trans <|
    (runs_if_t (a := 138) (b := 98) (L := [.ref 34, .null, .int x2, .int x3]) (st := []) (w := w) rfl h1).trans <|
    (runs_stps (q' := (149, [.ref 34, .null, .int x2, .null], [.int x2, .int (4 + (w.1 34 17)), .ref 37], w)) 7 rfl).trans <|
    (runs_ck (q' := (150, [.ref 34, .null, .int x2, .null], [], updI w 37 ((4 + (w.1 34 17)).toNatClampNeg) x2)) rfl h2).trans <|
    (runs_stps (q' := (239, [.ref 34, .null, .int x2, .null], [], updI (updI w 37 ((4 + (w.1 34 17)).toNatClampNeg) x2) 34 17 ((w.1 34 17) + 1))) 7 rfl).trans <|
    runs_ret rfl
theorem p_X9_readsItem_93FT_R {ex : Ex} {v1 : Value} {x2 : Int32} {x3 : Int32} {r1 : Int32} {w1 : Wd} {w : Wd} (h1 : ¬ 5 ≤ x3) (h2 : ex 144 [.ref 34] w = some (some (.int r1), w1)) (h3 : r1 = 0) (h4 : vp_in (4 + (w1.1 34 17)) 8) : runs (T_X9_readsItem ex) (93, [.ref 34, v1, .int x2, .int x3], [], w) = some (none, updI (updI w1 37 ((4 + (w1.1 34 17)).toNatClampNeg) x2) 34 17 ((w1.1 34 17) + 1)) := 
    (runs_stps (q' := (95, [.ref 34, .null, .int x2, .int x3], [.int 5, .int x3], w)) 2 rfl).trans <|
    (runs_if_f (a := 138) (b := 98) (L := [.ref 34, .null, .int x2, .int x3]) (st := []) (w := w) rfl h1).trans <|
    (runs_stps (q' := (99, [.ref 34, .null, .int x2, .int x3], [.ref 34], w)) 1 rfl).trans <|
    (runs_callV (rv := some (.int r1)) (w' := w1) rfl rfl rfl rfl h2).trans <|
    (runs_if_t (a := 138) (b := 105) (L := [.ref 34, .null, .int x2, .int x3]) (st := []) (w := w1) rfl h3).trans <|
    (runs_stps (q' := (149, [.ref 34, .null, .int x2, .null], [.int x2, .int (4 + (w1.1 34 17)), .ref 37], w1)) 7 rfl).trans <|
    (runs_ck (q' := (150, [.ref 34, .null, .int x2, .null], [], updI w1 37 ((4 + (w1.1 34 17)).toNatClampNeg) x2)) rfl h4).trans <|
    (runs_stps (q' := (239, [.ref 34, .null, .int x2, .null], [], updI (updI w1 37 ((4 + (w1.1 34 17)).toNatClampNeg) x2) 34 17 ((w1.1 34 17) + 1))) 7 rfl).trans <|
    runs_ret rfl
theorem p_X9_readsItem_93FFT_R {ex : Ex} {v1 : Value} {x2 : Int32} {x3 : Int32} {r1 : Int32} {w1 : Wd} {w : Wd} (h1 : ¬ 5 ≤ x3) (h2 : ex 144 [.ref 34] w = some (some (.int r1), w1)) (h3 : ¬ r1 = 0) (h4 : ¬ (w1.1 34 5) = 2) (h5 : vp_in (4 + (w1.1 34 17)) 8) : runs (T_X9_readsItem ex) (93, [.ref 34, v1, .int x2, .int x3], [], w) = some (none, updI (updI w1 37 ((4 + (w1.1 34 17)).toNatClampNeg) x2) 34 17 ((w1.1 34 17) + 1)) := 
    (runs_stps (q' := (95, [.ref 34, .null, .int x2, .int x3], [.int 5, .int x3], w)) 2 rfl).trans <|
    (runs_if_f (a := 138) (b := 98) (L := [.ref 34, .null, .int x2, .int x3]) (st := []) (w := w) rfl h1).trans <|
    (runs_stps (q' := (99, [.ref 34, .null, .int x2, .int x3], [.ref 34], w)) 1 rfl).trans <|
    (runs_callV (rv := some (.int r1)) (w' := w1) rfl rfl rfl rfl h2).trans <|
    (runs_if_f (a := 138) (b := 105) (L := [.ref 34, .null, .int x2, .int x3]) (st := []) (w := w1) rfl h3).trans <|
    (runs_stps (q' := (110, [.ref 34, .null, .int x2, .int x3], [.int 2, .int (w1.1 34 5)], w1)) 3 rfl).trans <|
    (runs_if_f (a := 113) (b := 138) (L := [.ref 34, .null, .int x2, .int x3]) (st := []) (w := w1) rfl h4).trans <|
    (runs_stps (q' := (149, [.ref 34, .null, .int x2, .null], [.int x2, .int (4 + (w1.1 34 17)), .ref 37], w1)) 7 rfl).trans <|
    (runs_ck (q' := (150, [.ref 34, .null, .int x2, .null], [], updI w1 37 ((4 + (w1.1 34 17)).toNatClampNeg) x2)) rfl h5).trans <|
    (runs_stps (q' := (239, [.ref 34, .null, .int x2, .null], [], updI (updI w1 37 ((4 + (w1.1 34 17)).toNatClampNeg) x2) 34 17 ((w1.1 34 17) + 1))) 7 rfl).trans <|
    runs_ret rfl

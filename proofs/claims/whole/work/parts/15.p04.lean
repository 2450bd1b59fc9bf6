/-! paths of the methods (printed by a program) -/
theorem p_X8_spell_0TSd_R {ex : Ex} {p : Nat} {x1 : Int32} {x2 : Int32} {r1 : Int32} {w1 : Wd} {w : Wd} (hp : scp p) (h1 : w.1 0 5 = nI p) (h2 : ex 59 [.ref p, .int x1] w = some (some (.int r1), w1)) (h3 : ¬ r1 = 0) (h4 : ¬ x2 = 0) (h5 : ¬ x2 = 1) (h6 : ¬ x2 = 2) (h7 : ¬ x2 = 3) : runs (T_X8_spell ex) (0, [.ref 0, .int x1, .int x2], [], w) = some (some (.int (-1)), w1) := by
  rcases hp with rfl | rfl
  · exact (runs_stps (q' := (1, [.ref 0, .int x1, .int x2], [.ref 0], w)) 1 rfl).trans <|
    (runs_getD (pc := 4) (L := [.ref 0, .int x1, .int x2]) (st := []) (w := w) rfl h1 (by decide)).trans <|
    (runs_stps (q' := (5, [.ref 0, .int x1, .int x2], [.int x1, .ref 20], w)) 1 rfl).trans <|
    (runs_callV (rv := some (.int r1)) (w' := w1) rfl rfl rfl rfl h2).trans <|
    (runs_if_f (a := 11) (b := 13) (L := [.ref 0, .int x1, .int x2]) (st := []) (w := w1) rfl h3).trans <|
    (runs_stps (q' := (14, [.ref 0, .int x1, .int x2], [.int x2], w1)) 1 rfl).trans <|
    (runs_sw (L := [.ref 0, .int x1, .int x2]) (st := []) (w := w1) rfl (show tsel _ _ _ = 88 by simp only [tsel, h4, h5, h6, h7, if_false])).trans <|
    (runs_stps (q' := (89, [.null, .null, .null], [.int (-1)], w1)) 1 rfl).trans <|
    runs_ret rfl
  · exact (runs_stps (q' := (1, [.ref 0, .int x1, .int x2], [.ref 0], w)) 1 rfl).trans <|
    (runs_getD (pc := 4) (L := [.ref 0, .int x1, .int x2]) (st := []) (w := w) rfl h1 (by decide)).trans <|
    (runs_stps (q' := (5, [.ref 0, .int x1, .int x2], [.int x1, .ref 27], w)) 1 rfl).trans <|
    (runs_callV (rv := some (.int r1)) (w' := w1) rfl rfl rfl rfl h2).trans <|
    (runs_if_f (a := 11) (b := 13) (L := [.ref 0, .int x1, .int x2]) (st := []) (w := w1) rfl h3).trans <|
    (runs_stps (q' := (14, [.ref 0, .int x1, .int x2], [.int x2], w1)) 1 rfl).trans <|
    (runs_sw (L := [.ref 0, .int x1, .int x2]) (st := []) (w := w1) rfl (show tsel _ _ _ = 88 by simp only [tsel, h4, h5, h6, h7, if_false])).trans <|
    (runs_stps (q' := (89, [.null, .null, .null], [.int (-1)], w1)) 1 rfl).trans <|
    runs_ret rfl
theorem p_X8_spell_0F_R {ex : Ex} {p : Nat} {x1 : Int32} {x2 : Int32} {r1 : Int32} {w1 : Wd} {w : Wd} (hp : scp p) (h1 : w.1 0 5 = nI p) (h2 : ex 59 [.ref p, .int x1] w = some (some (.int r1), w1)) (h3 : r1 = 0) : runs (T_X8_spell ex) (0, [.ref 0, .int x1, .int x2], [], w) = some (some (.int (-1)), w1) := by
  rcases hp with rfl | rfl
  · exact (runs_stps (q' := (1, [.ref 0, .int x1, .int x2], [.ref 0], w)) 1 rfl).trans <|
    (runs_getD (pc := 4) (L := [.ref 0, .int x1, .int x2]) (st := []) (w := w) rfl h1 (by decide)).trans <|
    (runs_stps (q' := (5, [.ref 0, .int x1, .int x2], [.int x1, .ref 20], w)) 1 rfl).trans <|
    (runs_callV (rv := some (.int r1)) (w' := w1) rfl rfl rfl rfl h2).trans <|
    (runs_if_t (a := 11) (b := 13) (L := [.ref 0, .int x1, .int x2]) (st := []) (w := w1) rfl h3).trans <|
    (runs_stps (q' := (12, [.ref 0, .int x1, .int x2], [.int (-1)], w1)) 1 rfl).trans <|
    runs_ret rfl
  · exact (runs_stps (q' := (1, [.ref 0, .int x1, .int x2], [.ref 0], w)) 1 rfl).trans <|
    (runs_getD (pc := 4) (L := [.ref 0, .int x1, .int x2]) (st := []) (w := w) rfl h1 (by decide)).trans <|
    (runs_stps (q' := (5, [.ref 0, .int x1, .int x2], [.int x1, .ref 27], w)) 1 rfl).trans <|
    (runs_callV (rv := some (.int r1)) (w' := w1) rfl rfl rfl rfl h2).trans <|
    (runs_if_t (a := 11) (b := 13) (L := [.ref 0, .int x1, .int x2]) (st := []) (w := w1) rfl h3).trans <|
    (runs_stps (q' := (12, [.ref 0, .int x1, .int x2], [.int (-1)], w1)) 1 rfl).trans <|
    runs_ret rfl
theorem p_X8_thing_0TS0_R {ex : Ex} {p : Nat} {x1 : Int32} {x2 : Int32} {r1 : Int32} {w1 : Wd} {r2 : Int32} {w2 : Wd} {r3 : Int32} {w3 : Wd} {w : Wd} (hp : scp p) (h1 : w.1 0 5 = nI p) (h2 : ex 60 [.ref p, .int x1] w = some (some (.int r1), w1)) (h3 : ¬ r1 = 0) (h4 : ex 92 [.ref 4, .int x1] w1 = some (some (.int r2), w2)) (h5 : x2 = 0) (h6 : ex 45 [.int r2] w2 = some (some (.int r3), w3)) : runs (T_X8_thing ex) (0, [.ref 0, .int x1, .int x2, .null], [], w) = some (some (.int r3), w3) := by
  rcases hp with rfl | rfl
  · exact (runs_stps (q' := (1, [.ref 0, .int x1, .int x2, .null], [.ref 0], w)) 1 rfl).trans <|
    (runs_getD (pc := 4) (L := [.ref 0, .int x1, .int x2, .null]) (st := []) (w := w) rfl h1 (by decide)).trans <|
    (runs_stps (q' := (5, [.ref 0, .int x1, .int x2, .null], [.int x1, .ref 20], w)) 1 rfl).trans <|
    (runs_callV (rv := some (.int r1)) (w' := w1) rfl rfl rfl rfl h2).trans <|
    (runs_if_f (a := 11) (b := 13) (L := [.ref 0, .int x1, .int x2, .null]) (st := []) (w := w1) rfl h3).trans <|
    (runs_stps (q' := (18, [.ref 0, .int x1, .int x2, .null], [.int x1, .ref 4], w1)) 3 rfl).trans <|
    (runs_callV (rv := some (.int r2)) (w' := w2) rfl rfl rfl rfl h4).trans <|
    (runs_stps (q' := (23, [.ref 0, .int x1, .int x2, .int r2], [.int x2], w2)) 2 rfl).trans <|
    (runs_sw (L := [.ref 0, .int x1, .int x2, .int r2]) (st := []) (w := w2) rfl (show tsel _ _ _ = 48 by rw [h5]; rfl)).trans <|
    (runs_stps (q' := (49, [.null, .null, .null, .int r2], [.int r2], w2)) 1 rfl).trans <|
    (runs_callS (rv := some (.int r3)) (w' := w3) rfl rfl rfl h6).trans <|
    runs_ret rfl
  · exact (runs_stps (q' := (1, [.ref 0, .int x1, .int x2, .null], [.ref 0], w)) 1 rfl).trans <|
    (runs_getD (pc := 4) (L := [.ref 0, .int x1, .int x2, .null]) (st := []) (w := w) rfl h1 (by decide)).trans <|
    (runs_stps (q' := (5, [.ref 0, .int x1, .int x2, .null], [.int x1, .ref 27], w)) 1 rfl).trans <|
    (runs_callV (rv := some (.int r1)) (w' := w1) rfl rfl rfl rfl h2).trans <|
    (runs_if_f (a := 11) (b := 13) (L := [.ref 0, .int x1, .int x2, .null]) (st := []) (w := w1) rfl h3).trans <|
    (runs_stps (q' := (18, [.ref 0, .int x1, .int x2, .null], [.int x1, .ref 4], w1)) 3 rfl).trans <|
    (runs_callV (rv := some (.int r2)) (w' := w2) rfl rfl rfl rfl h4).trans <|
    (runs_stps (q' := (23, [.ref 0, .int x1, .int x2, .int r2], [.int x2], w2)) 2 rfl).trans <|
    (runs_sw (L := [.ref 0, .int x1, .int x2, .int r2]) (st := []) (w := w2) rfl (show tsel _ _ _ = 48 by rw [h5]; rfl)).trans <|
    (runs_stps (q' := (49, [.null, .null, .null, .int r2], [.int r2], w2)) 1 rfl).trans <|
    (runs_callS (rv := some (.int r3)) (w' := w3) rfl rfl rfl h6).trans <|
    runs_ret rfl
theorem p_X8_thing_0TS1_R {ex : Ex} {p : Nat} {x1 : Int32} {x2 : Int32} {r1 : Int32} {w1 : Wd} {r2 : Int32} {w2 : Wd} {r3 : Int32} {w3 : Wd} {w : Wd} (hp : scp p) (h1 : w.1 0 5 = nI p) (h2 : ex 60 [.ref p, .int x1] w = some (some (.int r1), w1)) (h3 : ¬ r1 = 0) (h4 : ex 92 [.ref 4, .int x1] w1 = some (some (.int r2), w2)) (h5 : x2 = 1) (h6 : w2.1 0 5 = nI p) (h7 : ex 75 [.ref p, .int r2] w2 = some (some (.int r3), w3)) : runs (T_X8_thing ex) (0, [.ref 0, .int x1, .int x2, .null], [], w) = some (some (.int r3), w3) := by
  rcases hp with rfl | rfl
  · exact (runs_stps (q' := (1, [.ref 0, .int x1, .int x2, .null], [.ref 0], w)) 1 rfl).trans <|
    (runs_getD (pc := 4) (L := [.ref 0, .int x1, .int x2, .null]) (st := []) (w := w) rfl h1 (by decide)).trans <|
    (runs_stps (q' := (5, [.ref 0, .int x1, .int x2, .null], [.int x1, .ref 20], w)) 1 rfl).trans <|
    (runs_callV (rv := some (.int r1)) (w' := w1) rfl rfl rfl rfl h2).trans <|
    (runs_if_f (a := 11) (b := 13) (L := [.ref 0, .int x1, .int x2, .null]) (st := []) (w := w1) rfl h3).trans <|
    (runs_stps (q' := (18, [.ref 0, .int x1, .int x2, .null], [.int x1, .ref 4], w1)) 3 rfl).trans <|
    (runs_callV (rv := some (.int r2)) (w' := w2) rfl rfl rfl rfl h4).trans <|
    (runs_stps (q' := (23, [.ref 0, .int x1, .int x2, .int r2], [.int x2], w2)) 2 rfl).trans <|
    (runs_sw (L := [.ref 0, .int x1, .int x2, .int r2]) (st := []) (w := w2) rfl (show tsel _ _ _ = 53 by rw [h5]; rfl)).trans <|
    (runs_stps (q' := (54, [.ref 0, .null, .null, .int r2], [.ref 0], w2)) 1 rfl).trans <|
    (runs_getD (pc := 57) (L := [.ref 0, .null, .null, .int r2]) (st := []) (w := w2) rfl h6 (by decide)).trans <|
    (runs_stps (q' := (58, [.ref 0, .null, .null, .int r2], [.int r2, .ref 20], w2)) 1 rfl).trans <|
    (runs_callV (rv := some (.int r3)) (w' := w3) rfl rfl rfl rfl h7).trans <|
    runs_ret rfl
  · exact (runs_stps (q' := (1, [.ref 0, .int x1, .int x2, .null], [.ref 0], w)) 1 rfl).trans <|
    (runs_getD (pc := 4) (L := [.ref 0, .int x1, .int x2, .null]) (st := []) (w := w) rfl h1 (by decide)).trans <|
    (runs_stps (q' := (5, [.ref 0, .int x1, .int x2, .null], [.int x1, .ref 27], w)) 1 rfl).trans <|
    (runs_callV (rv := some (.int r1)) (w' := w1) rfl rfl rfl rfl h2).trans <|
    (runs_if_f (a := 11) (b := 13) (L := [.ref 0, .int x1, .int x2, .null]) (st := []) (w := w1) rfl h3).trans <|
    (runs_stps (q' := (18, [.ref 0, .int x1, .int x2, .null], [.int x1, .ref 4], w1)) 3 rfl).trans <|
    (runs_callV (rv := some (.int r2)) (w' := w2) rfl rfl rfl rfl h4).trans <|
    (runs_stps (q' := (23, [.ref 0, .int x1, .int x2, .int r2], [.int x2], w2)) 2 rfl).trans <|
    (runs_sw (L := [.ref 0, .int x1, .int x2, .int r2]) (st := []) (w := w2) rfl (show tsel _ _ _ = 53 by rw [h5]; rfl)).trans <|
    (runs_stps (q' := (54, [.ref 0, .null, .null, .int r2], [.ref 0], w2)) 1 rfl).trans <|
    (runs_getD (pc := 57) (L := [.ref 0, .null, .null, .int r2]) (st := []) (w := w2) rfl h6 (by decide)).trans <|
    (runs_stps (q' := (58, [.ref 0, .null, .null, .int r2], [.int r2, .ref 27], w2)) 1 rfl).trans <|
    (runs_callV (rv := some (.int r3)) (w' := w3) rfl rfl rfl rfl h7).trans <|
    runs_ret rfl
theorem p_X8_thing_0TS2T_R {ex : Ex} {p : Nat} {x1 : Int32} {x2 : Int32} {r1 : Int32} {w1 : Wd} {r2 : Int32} {w2 : Wd} {r3 : Int32} {w3 : Wd} {w : Wd} (hp : scp p) (h1 : w.1 0 5 = nI p) (h2 : ex 60 [.ref p, .int x1] w = some (some (.int r1), w1)) (h3 : ¬ r1 = 0) (h4 : ex 92 [.ref 4, .int x1] w1 = some (some (.int r2), w2)) (h5 : x2 = 2) (h6 : w2.1 0 5 = nI p) (h7 : ex 73 [.ref p, .int r2] w2 = some (some (.int r3), w3)) (h8 : r3 = 0) : runs (T_X8_thing ex) (0, [.ref 0, .int x1, .int x2, .null], [], w) = some (some (.int 0), w3) := by
  rcases hp with rfl | rfl
  · exact (runs_stps (q' := (1, [.ref 0, .int x1, .int x2, .null], [.ref 0], w)) 1 rfl).trans <|
    (runs_getD (pc := 4) (L := [.ref 0, .int x1, .int x2, .null]) (st := []) (w := w) rfl h1 (by decide)).trans <|
    (runs_stps (q' := (5, [.ref 0, .int x1, .int x2, .null], [.int x1, .ref 20], w)) 1 rfl).trans <|
    (runs_callV (rv := some (.int r1)) (w' := w1) rfl rfl rfl rfl h2).trans <|
    (runs_if_f (a := 11) (b := 13) (L := [.ref 0, .int x1, .int x2, .null]) (st := []) (w := w1) rfl h3).trans <|
    (runs_stps (q' := (18, [.ref 0, .int x1, .int x2, .null], [.int x1, .ref 4], w1)) 3 rfl).trans <|
    (runs_callV (rv := some (.int r2)) (w' := w2) rfl rfl rfl rfl h4).trans <|
    (runs_stps (q' := (23, [.ref 0, .int x1, .int x2, .int r2], [.int x2], w2)) 2 rfl).trans <|
    (runs_sw (L := [.ref 0, .int x1, .int x2, .int r2]) (st := []) (w := w2) rfl (show tsel _ _ _ = 62 by rw [h5]; rfl)).trans <|
    (runs_stps (q' := (63, [.ref 0, .null, .null, .int r2], [.ref 0], w2)) 1 rfl).trans <|
    (runs_getD (pc := 66) (L := [.ref 0, .null, .null, .int r2]) (st := []) (w := w2) rfl h6 (by decide)).trans <|
    (runs_stps (q' := (67, [.ref 0, .null, .null, .int r2], [.int r2, .ref 20], w2)) 1 rfl).trans <|
    (runs_callV (rv := some (.int r3)) (w' := w3) rfl rfl rfl rfl h7).trans <|
    (runs_if_t (a := 77) (b := 73) (L := [.ref 0, .null, .null, .int r2]) (st := []) (w := w3) rfl h8).trans <|
    (runs_stps (q' := (78, [.null, .null, .null, .null], [.int 0], w3)) 1 rfl).trans <|
    runs_ret rfl
  · exact (runs_stps (q' := (1, [.ref 0, .int x1, .int x2, .null], [.ref 0], w)) 1 rfl).trans <|
    (runs_getD (pc := 4) (L := [.ref 0, .int x1, .int x2, .null]) (st := []) (w := w) rfl h1 (by decide)).trans <|
    (runs_stps (q' := (5, [.ref 0, .int x1, .int x2, .null], [.int x1, .ref 27], w)) 1 rfl).trans <|
    (runs_callV (rv := some (.int r1)) (w' := w1) rfl rfl rfl rfl h2).trans <|
    (runs_if_f (a := 11) (b := 13) (L := [.ref 0, .int x1, .int x2, .null]) (st := []) (w := w1) rfl h3).trans <|
    (runs_stps (q' := (18, [.ref 0, .int x1, .int x2, .null], [.int x1, .ref 4], w1)) 3 rfl).trans <|
    (runs_callV (rv := some (.int r2)) (w' := w2) rfl rfl rfl rfl h4).trans <|
    (runs_stps (q' := (23, [.ref 0, .int x1, .int x2, .int r2], [.int x2], w2)) 2 rfl).trans <|
    (runs_sw (L := [.ref 0, .int x1, .int x2, .int r2]) (st := []) (w := w2) rfl (show tsel _ _ _ = 62 by rw [h5]; rfl)).trans <|
    (runs_stps (q' := (63, [.ref 0, .null, .null, .int r2], [.ref 0], w2)) 1 rfl).trans <|
    (runs_getD (pc := 66) (L := [.ref 0, .null, .null, .int r2]) (st := []) (w := w2) rfl h6 (by decide)).trans <|
    (runs_stps (q' := (67, [.ref 0, .null, .null, .int r2], [.int r2, .ref 27], w2)) 1 rfl).trans <|
    (runs_callV (rv := some (.int r3)) (w' := w3) rfl rfl rfl rfl h7).trans <|
    (runs_if_t (a := 77) (b := 73) (L := [.ref 0, .null, .null, .int r2]) (st := []) (w := w3) rfl h8).trans <|
    (runs_stps (q' := (78, [.null, .null, .null, .null], [.int 0], w3)) 1 rfl).trans <|
    runs_ret rfl
theorem p_X8_thing_0TS2F_R {ex : Ex} {p : Nat} {x1 : Int32} {x2 : Int32} {r1 : Int32} {w1 : Wd} {r2 : Int32} {w2 : Wd} {r3 : Int32} {w3 : Wd} {w : Wd} (hp : scp p) (h1 : w.1 0 5 = nI p) (h2 : ex 60 [.ref p, .int x1] w = some (some (.int r1), w1)) (h3 : ¬ r1 = 0) (h4 : ex 92 [.ref 4, .int x1] w1 = some (some (.int r2), w2)) (h5 : x2 = 2) (h6 : w2.1 0 5 = nI p) (h7 : ex 73 [.ref p, .int r2] w2 = some (some (.int r3), w3)) (h8 : ¬ r3 = 0) : runs (T_X8_thing ex) (0, [.ref 0, .int x1, .int x2, .null], [], w) = some (some (.int 1), w3) := by
  rcases hp with rfl | rfl
  · exact (runs_stps (q' := (1, [.ref 0, .int x1, .int x2, .null], [.ref 0], w)) 1 rfl).trans <|
    (runs_getD (pc := 4) (L := [.ref 0, .int x1, .int x2, .null]) (st := []) (w := w) rfl h1 (by decide)).trans <|
    (runs_stps (q' := (5, [.ref 0, .int x1, .int x2, .null], [.int x1, .ref 20], w)) 1 rfl).trans <|
    (runs_callV (rv := some (.int r1)) (w' := w1) rfl rfl rfl rfl h2).trans <|
    (runs_if_f (a := 11) (b := 13) (L := [.ref 0, .int x1, .int x2, .null]) (st := []) (w := w1) rfl h3).trans <|
    (runs_stps (q' := (18, [.ref 0, .int x1, .int x2, .null], [.int x1, .ref 4], w1)) 3 rfl).trans <|
    (runs_callV (rv := some (.int r2)) (w' := w2) rfl rfl rfl rfl h4).trans <|
    (runs_stps (q' := (23, [.ref 0, .int x1, .int x2, .int r2], [.int x2], w2)) 2 rfl).trans <|
    (runs_sw (L := [.ref 0, .int x1, .int x2, .int r2]) (st := []) (w := w2) rfl (show tsel _ _ _ = 62 by rw [h5]; rfl)).trans <|
    (runs_stps (q' := (63, [.ref 0, .null, .null, .int r2], [.ref 0], w2)) 1 rfl).trans <|
    (runs_getD (pc := 66) (L := [.ref 0, .null, .null, .int r2]) (st := []) (w := w2) rfl h6 (by decide)).trans <|
    (runs_stps (q' := (67, [.ref 0, .null, .null, .int r2], [.int r2, .ref 20], w2)) 1 rfl).trans <|
    (runs_callV (rv := some (.int r3)) (w' := w3) rfl rfl rfl rfl h7).trans <|
    (runs_if_f (a := 77) (b := 73) (L := [.ref 0, .null, .null, .int r2]) (st := []) (w := w3) rfl h8).trans <|
    (runs_stps (q' := (78, [.ref 0, .null, .null, .int r2], [.int 1], w3)) 2 rfl).trans <|
    runs_ret rfl
  · exact (runs_stps (q' := (1, [.ref 0, .int x1, .int x2, .null], [.ref 0], w)) 1 rfl).trans <|
    (runs_getD (pc := 4) (L := [.ref 0, .int x1, .int x2, .null]) (st := []) (w := w) rfl h1 (by decide)).trans <|
    (runs_stps (q' := (5, [.ref 0, .int x1, .int x2, .null], [.int x1, .ref 27], w)) 1 rfl).trans <|
    (runs_callV (rv := some (.int r1)) (w' := w1) rfl rfl rfl rfl h2).trans <|
    (runs_if_f (a := 11) (b := 13) (L := [.ref 0, .int x1, .int x2, .null]) (st := []) (w := w1) rfl h3).trans <|
    (runs_stps (q' := (18, [.ref 0, .int x1, .int x2, .null], [.int x1, .ref 4], w1)) 3 rfl).trans <|
    (runs_callV (rv := some (.int r2)) (w' := w2) rfl rfl rfl rfl h4).trans <|
    (runs_stps (q' := (23, [.ref 0, .int x1, .int x2, .int r2], [.int x2], w2)) 2 rfl).trans <|
    (runs_sw (L := [.ref 0, .int x1, .int x2, .int r2]) (st := []) (w := w2) rfl (show tsel _ _ _ = 62 by rw [h5]; rfl)).trans <|
    (runs_stps (q' := (63, [.ref 0, .null, .null, .int r2], [.ref 0], w2)) 1 rfl).trans <|
    (runs_getD (pc := 66) (L := [.ref 0, .null, .null, .int r2]) (st := []) (w := w2) rfl h6 (by decide)).trans <|
    (runs_stps (q' := (67, [.ref 0, .null, .null, .int r2], [.int r2, .ref 27], w2)) 1 rfl).trans <|
    (runs_callV (rv := some (.int r3)) (w' := w3) rfl rfl rfl rfl h7).trans <|
    (runs_if_f (a := 77) (b := 73) (L := [.ref 0, .null, .null, .int r2]) (st := []) (w := w3) rfl h8).trans <|
    (runs_stps (q' := (78, [.ref 0, .null, .null, .int r2], [.int 1], w3)) 2 rfl).trans <|
    runs_ret rfl
theorem p_X8_thing_0TSd_R {ex : Ex} {p : Nat} {x1 : Int32} {x2 : Int32} {r1 : Int32} {w1 : Wd} {r2 : Int32} {w2 : Wd} {w : Wd} (hp : scp p) (h1 : w.1 0 5 = nI p) (h2 : ex 60 [.ref p, .int x1] w = some (some (.int r1), w1)) (h3 : ¬ r1 = 0) (h4 : ex 92 [.ref 4, .int x1] w1 = some (some (.int r2), w2)) (h5 : ¬ x2 = 0) (h6 : ¬ x2 = 1) (h7 : ¬ x2 = 2) : runs (T_X8_thing ex) (0, [.ref 0, .int x1, .int x2, .null], [], w) = some (some (.int (-1)), w2) := by
  rcases hp with rfl | rfl
  · exact (runs_stps (q' := (1, [.ref 0, .int x1, .int x2, .null], [.ref 0], w)) 1 rfl).trans <|
    (runs_getD (pc := 4) (L := [.ref 0, .int x1, .int x2, .null]) (st := []) (w := w) rfl h1 (by decide)).trans <|
    (runs_stps (q' := (5, [.ref 0, .int x1, .int x2, .null], [.int x1, .ref 20], w)) 1 rfl).trans <|
    (runs_callV (rv := some (.int r1)) (w' := w1) rfl rfl rfl rfl h2).trans <|
    (runs_if_f (a := 11) (b := 13) (L := [.ref 0, .int x1, .int x2, .null]) (st := []) (w := w1) rfl h3).trans <|
    (runs_stps (q' := (18, [.ref 0, .int x1, .int x2, .null], [.int x1, .ref 4], w1)) 3 rfl).trans <|
    (runs_callV (rv := some (.int r2)) (w' := w2) rfl rfl rfl rfl h4).trans <|
    (runs_stps (q' := (23, [.ref 0, .int x1, .int x2, .int r2], [.int x2], w2)) 2 rfl).trans <|
    (runs_sw (L := [.ref 0, .int x1, .int x2, .int r2]) (st := []) (w := w2) rfl (show tsel _ _ _ = 79 by simp only [tsel, h5, h6, h7, if_false])).trans <|
    (runs_stps (q' := (80, [.null, .null, .null, .null], [.int (-1)], w2)) 1 rfl).trans <|
    runs_ret rfl
  · exact (runs_stps (q' := (1, [.ref 0, .int x1, .int x2, .null], [.ref 0], w)) 1 rfl).trans <|
    (runs_getD (pc := 4) (L := [.ref 0, .int x1, .int x2, .null]) (st := []) (w := w) rfl h1 (by decide)).trans <|
    (runs_stps (q' := (5, [.ref 0, .int x1, .int x2, .null], [.int x1, .ref 27], w)) 1 rfl).trans <|
    (runs_callV (rv := some (.int r1)) (w' := w1) rfl rfl rfl rfl h2).trans <|
    (runs_if_f (a := 11) (b := 13) (L := [.ref 0, .int x1, .int x2, .null]) (st := []) (w := w1) rfl h3).trans <|
    (runs_stps (q' := (18, [.ref 0, .int x1, .int x2, .null], [.int x1, .ref 4], w1)) 3 rfl).trans <|
    (runs_callV (rv := some (.int r2)) (w' := w2) rfl rfl rfl rfl h4).trans <|
    (runs_stps (q' := (23, [.ref 0, .int x1, .int x2, .int r2], [.int x2], w2)) 2 rfl).trans <|
    (runs_sw (L := [.ref 0, .int x1, .int x2, .int r2]) (st := []) (w := w2) rfl (show tsel _ _ _ = 79 by simp only [tsel, h5, h6, h7, if_false])).trans <|
    (runs_stps (q' := (80, [.null, .null, .null, .null], [.int (-1)], w2)) 1 rfl).trans <|
    runs_ret rfl
theorem p_X8_thing_0F_R {ex : Ex} {p : Nat} {x1 : Int32} {x2 : Int32} {r1 : Int32} {w1 : Wd} {w : Wd} (hp : scp p) (h1 : w.1 0 5 = nI p) (h2 : ex 60 [.ref p, .int x1] w = some (some (.int r1), w1)) (h3 : r1 = 0) : runs (T_X8_thing ex) (0, [.ref 0, .int x1, .int x2, .null], [], w) = some (some (.int (-1)), w1) := by
  rcases hp with rfl | rfl
  · exact (runs_stps (q' := (1, [.ref 0, .int x1, .int x2, .null], [.ref 0], w)) 1 rfl).trans <|
    (runs_getD (pc := 4) (L := [.ref 0, .int x1, .int x2, .null]) (st := []) (w := w) rfl h1 (by decide)).trans <|
    (runs_stps (q' := (5, [.ref 0, .int x1, .int x2, .null], [.int x1, .ref 20], w)) 1 rfl).trans <|
    (runs_callV (rv := some (.int r1)) (w' := w1) rfl rfl rfl rfl h2).trans <|
    (runs_if_t (a := 11) (b := 13) (L := [.ref 0, .int x1, .int x2, .null]) (st := []) (w := w1) rfl h3).trans <|
    (runs_stps (q' := (12, [.ref 0, .int x1, .int x2, .null], [.int (-1)], w1)) 1 rfl).trans <|
    runs_ret rfl
  · exact (runs_stps (q' := (1, [.ref 0, .int x1, .int x2, .null], [.ref 0], w)) 1 rfl).trans <|
    (runs_getD (pc := 4) (L := [.ref 0, .int x1, .int x2, .null]) (st := []) (w := w) rfl h1 (by decide)).trans <|
    (runs_stps (q' := (5, [.ref 0, .int x1, .int x2, .null], [.int x1, .ref 27], w)) 1 rfl).trans <|
    (runs_callV (rv := some (.int r1)) (w' := w1) rfl rfl rfl rfl h2).trans <|
    (runs_if_t (a := 11) (b := 13) (L := [.ref 0, .int x1, .int x2, .null]) (st := []) (w := w1) rfl h3).trans <|
    (runs_stps (q' := (12, [.ref 0, .int x1, .int x2, .null], [.int (-1)], w1)) 1 rfl).trans <|
    runs_ret rfl
theorem p_X8_layer_0T_R {ex : Ex} {p : Nat} {x1 : Int32} {x2 : Int32} {r1 : Int32} {w1 : Wd} {w : Wd} (hp : scp p) (h1 : w.1 0 5 = nI p) (h2 : ex 60 [.ref p, .int x1] w = some (some (.int r1), w1)) (h3 : r1 = 0) : runs (T_X8_layer ex) (0, [.ref 0, .int x1, .int x2], [], w) = some (some (.int (-1)), w1) := by
  rcases hp with rfl | rfl
  · exact (runs_stps (q' := (1, [.ref 0, .int x1, .int x2], [.ref 0], w)) 1 rfl).trans <|
    (runs_getD (pc := 4) (L := [.ref 0, .int x1, .int x2]) (st := []) (w := w) rfl h1 (by decide)).trans <|
    (runs_stps (q' := (5, [.ref 0, .int x1, .int x2], [.int x1, .ref 20], w)) 1 rfl).trans <|
    (runs_callV (rv := some (.int r1)) (w' := w1) rfl rfl rfl rfl h2).trans <|
    (runs_if_t (a := 15) (b := 11) (L := [.ref 0, .int x1, .int x2]) (st := []) (w := w1) rfl h3).trans <|
    (runs_stps (q' := (16, [.null, .null, .null], [.int (-1)], w1)) 1 rfl).trans <|
    runs_ret rfl
  · exact (runs_stps (q' := (1, [.ref 0, .int x1, .int x2], [.ref 0], w)) 1 rfl).trans <|
    (runs_getD (pc := 4) (L := [.ref 0, .int x1, .int x2]) (st := []) (w := w) rfl h1 (by decide)).trans <|
    (runs_stps (q' := (5, [.ref 0, .int x1, .int x2], [.int x1, .ref 27], w)) 1 rfl).trans <|
    (runs_callV (rv := some (.int r1)) (w' := w1) rfl rfl rfl rfl h2).trans <|
    (runs_if_t (a := 15) (b := 11) (L := [.ref 0, .int x1, .int x2]) (st := []) (w := w1) rfl h3).trans <|
    (runs_stps (q' := (16, [.null, .null, .null], [.int (-1)], w1)) 1 rfl).trans <|
    runs_ret rfl
theorem p_X8_layer_0FT_R {ex : Ex} {p : Nat} {x1 : Int32} {x2 : Int32} {r1 : Int32} {w1 : Wd} {r2 : Int32} {w2 : Wd} {r3 : Int32} {w3 : Wd} {w : Wd} (hp : scp p) (h1 : w.1 0 5 = nI p) (h2 : ex 60 [.ref p, .int x1] w = some (some (.int r1), w1)) (h3 : ¬ r1 = 0) (h4 : 0 ≤ x2) (h5 : ex 92 [.ref 4, .int x1] w1 = some (some (.int r2), w2)) (h6 : ex 43 [.int r2, .int x2] w2 = some (some (.int r3), w3)) : runs (T_X8_layer ex) (0, [.ref 0, .int x1, .int x2], [], w) = some (some (.int r3), w3) := by
  rcases hp with rfl | rfl
  · exact (runs_stps (q' := (1, [.ref 0, .int x1, .int x2], [.ref 0], w)) 1 rfl).trans <|
    (runs_getD (pc := 4) (L := [.ref 0, .int x1, .int x2]) (st := []) (w := w) rfl h1 (by decide)).trans <|
    (runs_stps (q' := (5, [.ref 0, .int x1, .int x2], [.int x1, .ref 20], w)) 1 rfl).trans <|
    (runs_callV (rv := some (.int r1)) (w' := w1) rfl rfl rfl rfl h2).trans <|
    (runs_if_f (a := 15) (b := 11) (L := [.ref 0, .int x1, .int x2]) (st := []) (w := w1) rfl h3).trans <|
    (runs_stps (q' := (12, [.ref 0, .int x1, .int x2], [.int x2], w1)) 1 rfl).trans <|
    (runs_if_t (a := 17) (b := 15) (L := [.ref 0, .int x1, .int x2]) (st := []) (w := w1) rfl h4).trans <|
    (runs_stps (q' := (22, [.ref 0, .int x1, .int x2], [.int x1, .ref 4], w1)) 3 rfl).trans <|
    (runs_callV (rv := some (.int r2)) (w' := w2) rfl rfl rfl rfl h5).trans <|
    (runs_stps (q' := (26, [.ref 0, .int x1, .int x2], [.int x2, .int r2], w2)) 1 rfl).trans <|
    (runs_callS (rv := some (.int r3)) (w' := w3) rfl rfl rfl h6).trans <|
    runs_ret rfl
  · exact (runs_stps (q' := (1, [.ref 0, .int x1, .int x2], [.ref 0], w)) 1 rfl).trans <|
    (runs_getD (pc := 4) (L := [.ref 0, .int x1, .int x2]) (st := []) (w := w) rfl h1 (by decide)).trans <|
    (runs_stps (q' := (5, [.ref 0, .int x1, .int x2], [.int x1, .ref 27], w)) 1 rfl).trans <|
    (runs_callV (rv := some (.int r1)) (w' := w1) rfl rfl rfl rfl h2).trans <|
    (runs_if_f (a := 15) (b := 11) (L := [.ref 0, .int x1, .int x2]) (st := []) (w := w1) rfl h3).trans <|
    (runs_stps (q' := (12, [.ref 0, .int x1, .int x2], [.int x2], w1)) 1 rfl).trans <|
    (runs_if_t (a := 17) (b := 15) (L := [.ref 0, .int x1, .int x2]) (st := []) (w := w1) rfl h4).trans <|
    (runs_stps (q' := (22, [.ref 0, .int x1, .int x2], [.int x1, .ref 4], w1)) 3 rfl).trans <|
    (runs_callV (rv := some (.int r2)) (w' := w2) rfl rfl rfl rfl h5).trans <|
    (runs_stps (q' := (26, [.ref 0, .int x1, .int x2], [.int x2, .int r2], w2)) 1 rfl).trans <|
    (runs_callS (rv := some (.int r3)) (w' := w3) rfl rfl rfl h6).trans <|
    runs_ret rfl
theorem p_X8_layer_0FF_R {ex : Ex} {p : Nat} {x1 : Int32} {x2 : Int32} {r1 : Int32} {w1 : Wd} {w : Wd} (hp : scp p) (h1 : w.1 0 5 = nI p) (h2 : ex 60 [.ref p, .int x1] w = some (some (.int r1), w1)) (h3 : ¬ r1 = 0) (h4 : ¬ 0 ≤ x2) : runs (T_X8_layer ex) (0, [.ref 0, .int x1, .int x2], [], w) = some (some (.int (-1)), w1) := by
  rcases hp with rfl | rfl
  · exact (runs_stps (q' := (1, [.ref 0, .int x1, .int x2], [.ref 0], w)) 1 rfl).trans <|
    (runs_getD (pc := 4) (L := [.ref 0, .int x1, .int x2]) (st := []) (w := w) rfl h1 (by decide)).trans <|
    (runs_stps (q' := (5, [.ref 0, .int x1, .int x2], [.int x1, .ref 20], w)) 1 rfl).trans <|
    (runs_callV (rv := some (.int r1)) (w' := w1) rfl rfl rfl rfl h2).trans <|
    (runs_if_f (a := 15) (b := 11) (L := [.ref 0, .int x1, .int x2]) (st := []) (w := w1) rfl h3).trans <|
    (runs_stps (q' := (12, [.ref 0, .int x1, .int x2], [.int x2], w1)) 1 rfl).trans <|
    (runs_if_f (a := 17) (b := 15) (L := [.ref 0, .int x1, .int x2]) (st := []) (w := w1) rfl h4).trans <|
    (runs_stps (q' := (16, [.null, .null, .null], [.int (-1)], w1)) 1 rfl).trans <|
    runs_ret rfl
  · exact (runs_stps (q' := (1, [.ref 0, .int x1, .int x2], [.ref 0], w)) 1 rfl).trans <|
    (runs_getD (pc := 4) (L := [.ref 0, .int x1, .int x2]) (st := []) (w := w) rfl h1 (by decide)).trans <|
    (runs_stps (q' := (5, [.ref 0, .int x1, .int x2], [.int x1, .ref 27], w)) 1 rfl).trans <|
    (runs_callV (rv := some (.int r1)) (w' := w1) rfl rfl rfl rfl h2).trans <|
    (runs_if_f (a := 15) (b := 11) (L := [.ref 0, .int x1, .int x2]) (st := []) (w := w1) rfl h3).trans <|
    (runs_stps (q' := (12, [.ref 0, .int x1, .int x2], [.int x2], w1)) 1 rfl).trans <|
    (runs_if_f (a := 17) (b := 15) (L := [.ref 0, .int x1, .int x2]) (st := []) (w := w1) rfl h4).trans <|
    (runs_stps (q' := (16, [.null, .null, .null], [.int (-1)], w1)) 1 rfl).trans <|
    runs_ret rfl
theorem p_X8_pupil_0T_R {ex : Ex} {p : Nat} {x1 : Int32} {r1 : Int32} {w1 : Wd} {w : Wd} (hp : scp p) (h1 : w.1 0 5 = nI p) (h2 : ex 61 [.ref p, .int x1] w = some (some (.int r1), w1)) (h3 : r1 = 0) : runs (T_X8_pupil ex) (0, [.ref 0, .int x1], [], w) = some (some (.int (-1)), w1) := by
  rcases hp with rfl | rfl
  · exact (runs_stps (q' := (1, [.ref 0, .int x1], [.ref 0], w)) 1 rfl).trans <|
    (runs_getD (pc := 4) (L := [.ref 0, .int x1]) (st := []) (w := w) rfl h1 (by decide)).trans <|
    (runs_stps (q' := (5, [.ref 0, .int x1], [.int x1, .ref 20], w)) 1 rfl).trans <|
    (runs_callV (rv := some (.int r1)) (w' := w1) rfl rfl rfl rfl h2).trans <|
    (runs_if_t (a := 22) (b := 11) (L := [.ref 0, .int x1]) (st := []) (w := w1) rfl h3).trans <|
    (runs_stps (q' := (23, [.null, .null], [.int (-1)], w1)) 1 rfl).trans <|
    runs_ret rfl
  · exact (runs_stps (q' := (1, [.ref 0, .int x1], [.ref 0], w)) 1 rfl).trans <|
    (runs_getD (pc := 4) (L := [.ref 0, .int x1]) (st := []) (w := w) rfl h1 (by decide)).trans <|
    (runs_stps (q' := (5, [.ref 0, .int x1], [.int x1, .ref 27], w)) 1 rfl).trans <|
    (runs_callV (rv := some (.int r1)) (w' := w1) rfl rfl rfl rfl h2).trans <|
    (runs_if_t (a := 22) (b := 11) (L := [.ref 0, .int x1]) (st := []) (w := w1) rfl h3).trans <|
    (runs_stps (q' := (23, [.null, .null], [.int (-1)], w1)) 1 rfl).trans <|
    runs_ret rfl
theorem p_X8_pupil_0F_R {ex : Ex} {p : Nat} {x1 : Int32} {r1 : Int32} {w1 : Wd} {r2 : Int32} {w2 : Wd} {w : Wd} (hp : scp p) (h1 : w.1 0 5 = nI p) (h2 : ex 61 [.ref p, .int x1] w = some (some (.int r1), w1)) (h3 : ¬ r1 = 0) (h4 : w1.1 0 5 = nI p) (h5 : ex 68 [.ref p, .int x1] w1 = some (some (.int r2), w2)) : runs (T_X8_pupil ex) (0, [.ref 0, .int x1], [], w) = some (some (.int r2), w2) := by
  rcases hp with rfl | rfl
  · exact (runs_stps (q' := (1, [.ref 0, .int x1], [.ref 0], w)) 1 rfl).trans <|
    (runs_getD (pc := 4) (L := [.ref 0, .int x1]) (st := []) (w := w) rfl h1 (by decide)).trans <|
    (runs_stps (q' := (5, [.ref 0, .int x1], [.int x1, .ref 20], w)) 1 rfl).trans <|
    (runs_callV (rv := some (.int r1)) (w' := w1) rfl rfl rfl rfl h2).trans <|
    (runs_if_f (a := 22) (b := 11) (L := [.ref 0, .int x1]) (st := []) (w := w1) rfl h3).trans <|
    (runs_stps (q' := (12, [.ref 0, .int x1], [.ref 0], w1)) 1 rfl).trans <|
    (runs_getD (pc := 15) (L := [.ref 0, .int x1]) (st := []) (w := w1) rfl h4 (by decide)).trans <|
    (runs_stps (q' := (16, [.ref 0, .int x1], [.int x1, .ref 20], w1)) 1 rfl).trans <|
    (runs_callV (rv := some (.int r2)) (w' := w2) rfl rfl rfl rfl h5).trans <|
    (runs_stps (q' := (23, [.ref 0, .int x1], [.int r2], w2)) 1 rfl).trans <|
    runs_ret rfl
  · exact (runs_stps (q' := (1, [.ref 0, .int x1], [.ref 0], w)) 1 rfl).trans <|
    (runs_getD (pc := 4) (L := [.ref 0, .int x1]) (st := []) (w := w) rfl h1 (by decide)).trans <|
    (runs_stps (q' := (5, [.ref 0, .int x1], [.int x1, .ref 27], w)) 1 rfl).trans <|
    (runs_callV (rv := some (.int r1)) (w' := w1) rfl rfl rfl rfl h2).trans <|
    (runs_if_f (a := 22) (b := 11) (L := [.ref 0, .int x1]) (st := []) (w := w1) rfl h3).trans <|
    (runs_stps (q' := (12, [.ref 0, .int x1], [.ref 0], w1)) 1 rfl).trans <|
    (runs_getD (pc := 15) (L := [.ref 0, .int x1]) (st := []) (w := w1) rfl h4 (by decide)).trans <|
    (runs_stps (q' := (16, [.ref 0, .int x1], [.int x1, .ref 27], w1)) 1 rfl).trans <|
    (runs_callV (rv := some (.int r2)) (w' := w2) rfl rfl rfl rfl h5).trans <|
    (runs_stps (q' := (23, [.ref 0, .int x1], [.int r2], w2)) 1 rfl).trans <|
    runs_ret rfl
theorem p_X8_lay_0T_R {ex : Ex} {p : Nat} {x1 : Int32} {x2 : Int32} {x3 : Int32} {r1 : Int32} {w1 : Wd} {w : Wd} (hp : scp p) (h1 : w.1 0 5 = nI p) (h2 : ex 61 [.ref p, .int x1] w = some (some (.int r1), w1)) (h3 : r1 = 0) : runs (T_X8_lay ex) (0, [.ref 0, .int x1, .int x2, .int x3, .null, .null], [], w) = some (some (.int (-1)), w1) := by
  rcases hp with rfl | rfl
  · exact (runs_stps (q' := (1, [.ref 0, .int x1, .int x2, .int x3, .null, .null], [.ref 0], w)) 1 rfl).trans <|
    (runs_getD (pc := 4) (L := [.ref 0, .int x1, .int x2, .int x3, .null, .null]) (st := []) (w := w) rfl h1 (by decide)).trans <|
    (runs_stps (q' := (5, [.ref 0, .int x1, .int x2, .int x3, .null, .null], [.int x1, .ref 20], w)) 1 rfl).trans <|
    (runs_callV (rv := some (.int r1)) (w' := w1) rfl rfl rfl rfl h2).trans <|
    (runs_if_t (a := 33) (b := 11) (L := [.ref 0, .int x1, .int x2, .int x3, .null, .null]) (st := []) (w := w1) rfl h3).trans <|
    (runs_stps (q' := (34, [.null, .null, .null, .null, .null, .null], [.int (-1)], w1)) 1 rfl).trans <|
    runs_ret rfl
  · exact (runs_stps (q' := (1, [.ref 0, .int x1, .int x2, .int x3, .null, .null], [.ref 0], w)) 1 rfl).trans <|
    (runs_getD (pc := 4) (L := [.ref 0, .int x1, .int x2, .int x3, .null, .null]) (st := []) (w := w) rfl h1 (by decide)).trans <|
    (runs_stps (q' := (5, [.ref 0, .int x1, .int x2, .int x3, .null, .null], [.int x1, .ref 27], w)) 1 rfl).trans <|
    (runs_callV (rv := some (.int r1)) (w' := w1) rfl rfl rfl rfl h2).trans <|
    (runs_if_t (a := 33) (b := 11) (L := [.ref 0, .int x1, .int x2, .int x3, .null, .null]) (st := []) (w := w1) rfl h3).trans <|
    (runs_stps (q' := (34, [.null, .null, .null, .null, .null, .null], [.int (-1)], w1)) 1 rfl).trans <|
    runs_ret rfl
theorem p_X8_lay_0FT_R {ex : Ex} {p : Nat} {x1 : Int32} {x2 : Int32} {x3 : Int32} {r1 : Int32} {w1 : Wd} {r2 : Int32} {w2 : Wd} {w : Wd} (hp : scp p) (h1 : w.1 0 5 = nI p) (h2 : ex 61 [.ref p, .int x1] w = some (some (.int r1), w1)) (h3 : ¬ r1 = 0) (h4 : w1.1 0 5 = nI p) (h5 : ex 60 [.ref p, .int x2] w1 = some (some (.int r2), w2)) (h6 : r2 = 0) : runs (T_X8_lay ex) (0, [.ref 0, .int x1, .int x2, .int x3, .null, .null], [], w) = some (some (.int (-1)), w2) := by
  rcases hp with rfl | rfl
  · exact (runs_stps (q' := (1, [.ref 0, .int x1, .int x2, .int x3, .null, .null], [.ref 0], w)) 1 rfl).trans <|
    (runs_getD (pc := 4) (L := [.ref 0, .int x1, .int x2, .int x3, .null, .null]) (st := []) (w := w) rfl h1 (by decide)).trans <|
    (runs_stps (q' := (5, [.ref 0, .int x1, .int x2, .int x3, .null, .null], [.int x1, .ref 20], w)) 1 rfl).trans <|
    (runs_callV (rv := some (.int r1)) (w' := w1) rfl rfl rfl rfl h2).trans <|
    (runs_if_f (a := 33) (b := 11) (L := [.ref 0, .int x1, .int x2, .int x3, .null, .null]) (st := []) (w := w1) rfl h3).trans <|
    (runs_stps (q' := (12, [.ref 0, .int x1, .int x2, .int x3, .null, .null], [.ref 0], w1)) 1 rfl).trans <|
    (runs_getD (pc := 15) (L := [.ref 0, .int x1, .int x2, .int x3, .null, .null]) (st := []) (w := w1) rfl h4 (by decide)).trans <|
    (runs_stps (q' := (16, [.ref 0, .int x1, .int x2, .int x3, .null, .null], [.int x2, .ref 20], w1)) 1 rfl).trans <|
    (runs_callV (rv := some (.int r2)) (w' := w2) rfl rfl rfl rfl h5).trans <|
    (runs_if_t (a := 33) (b := 22) (L := [.ref 0, .int x1, .int x2, .int x3, .null, .null]) (st := []) (w := w2) rfl h6).trans <|
    (runs_stps (q' := (34, [.null, .null, .null, .null, .null, .null], [.int (-1)], w2)) 1 rfl).trans <|
    runs_ret rfl
  · exact (runs_stps (q' := (1, [.ref 0, .int x1, .int x2, .int x3, .null, .null], [.ref 0], w)) 1 rfl).trans <|
    (runs_getD (pc := 4) (L := [.ref 0, .int x1, .int x2, .int x3, .null, .null]) (st := []) (w := w) rfl h1 (by decide)).trans <|
    (runs_stps (q' := (5, [.ref 0, .int x1, .int x2, .int x3, .null, .null], [.int x1, .ref 27], w)) 1 rfl).trans <|
    (runs_callV (rv := some (.int r1)) (w' := w1) rfl rfl rfl rfl h2).trans <|
    (runs_if_f (a := 33) (b := 11) (L := [.ref 0, .int x1, .int x2, .int x3, .null, .null]) (st := []) (w := w1) rfl h3).trans <|
    (runs_stps (q' := (12, [.ref 0, .int x1, .int x2, .int x3, .null, .null], [.ref 0], w1)) 1 rfl).trans <|
    (runs_getD (pc := 15) (L := [.ref 0, .int x1, .int x2, .int x3, .null, .null]) (st := []) (w := w1) rfl h4 (by decide)).trans <|
    (runs_stps (q' := (16, [.ref 0, .int x1, .int x2, .int x3, .null, .null], [.int x2, .ref 27], w1)) 1 rfl).trans <|
    (runs_callV (rv := some (.int r2)) (w' := w2) rfl rfl rfl rfl h5).trans <|
    (runs_if_t (a := 33) (b := 22) (L := [.ref 0, .int x1, .int x2, .int x3, .null, .null]) (st := []) (w := w2) rfl h6).trans <|
    (runs_stps (q' := (34, [.null, .null, .null, .null, .null, .null], [.int (-1)], w2)) 1 rfl).trans <|
    runs_ret rfl
theorem p_X8_lay_0FFTTT_R {ex : Ex} {p : Nat} {x1 : Int32} {x2 : Int32} {x3 : Int32} {r1 : Int32} {w1 : Wd} {r2 : Int32} {w2 : Wd} {r3 : Int32} {w3 : Wd} {r4 : Int32} {w4 : Wd} {r5 : Int32} {w5 : Wd} {r6 : Int32} {w6 : Wd} {r7 : Int32} {w7 : Wd} {r8 : Int32} {w8 : Wd} {w9 : Wd} {w : Wd} (hp : scp p) (h1 : w.1 0 5 = nI p) (h2 : ex 61 [.ref p, .int x1] w = some (some (.int r1), w1)) (h3 : ¬ r1 = 0) (h4 : w1.1 0 5 = nI p) (h5 : ex 60 [.ref p, .int x2] w1 = some (some (.int r2), w2)) (h6 : ¬ r2 = 0) (h7 : w2.1 0 5 = nI p) (h8 : ex 59 [.ref p, .int x3] w2 = some (some (.int r3), w3)) (h9 : ¬ r3 = 0) (h10 : w3.1 0 5 = nI p) (h11 : ex 71 [.ref p, .int (1 <<< (x1 &&& 31)), .int x3] w3 = some (some (.int r4), w4)) (h12 : ¬ r4 = 0) (h13 : ex 92 [.ref 4, .int x2] w4 = some (some (.int r5), w5)) (h14 : ex 38 [.int r5] w5 = some (some (.int r6), w6)) (h15 : r6 = 0) (h16 : w6.1 0 5 = nI p) (h17 : ex 65 [.ref p, .int x3] w6 = some (some (.int r7), w7)) (h18 : ex 39 [.int r5, .int x3] w7 = some (some (.int r8), w8)) (h19 : ex 95 [.ref 4, .int x2, .int r8, .int r7] w8 = some (none, w9)) : runs (T_X8_lay ex) (0, [.ref 0, .int x1, .int x2, .int x3, .null, .null], [], w) = some (some (.int r7), w9) := by
  rcases hp with rfl | rfl
  · exact (runs_stps (q' := (1, [.ref 0, .int x1, .int x2, .int x3, .null, .null], [.ref 0], w)) 1 rfl).trans <|
    (runs_getD (pc := 4) (L := [.ref 0, .int x1, .int x2, .int x3, .null, .null]) (st := []) (w := w) rfl h1 (by decide)).trans <|
    (runs_stps (q' := (5, [.ref 0, .int x1, .int x2, .int x3, .null, .null], [.int x1, .ref 20], w)) 1 rfl).trans <|
    (runs_callV (rv := some (.int r1)) (w' := w1) rfl rfl rfl rfl h2).trans <|
    (runs_if_f (a := 33) (b := 11) (L := [.ref 0, .int x1, .int x2, .int x3, .null, .null]) (st := []) (w := w1) rfl h3).trans <|
    (runs_stps (q' := (12, [.ref 0, .int x1, .int x2, .int x3, .null, .null], [.ref 0], w1)) 1 rfl).trans <|
    (runs_getD (pc := 15) (L := [.ref 0, .int x1, .int x2, .int x3, .null, .null]) (st := []) (w := w1) rfl h4 (by decide)).trans <|
    (runs_stps (q' := (16, [.ref 0, .int x1, .int x2, .int x3, .null, .null], [.int x2, .ref 20], w1)) 1 rfl).trans <|
    (runs_callV (rv := some (.int r2)) (w' := w2) rfl rfl rfl rfl h5).trans <|
    (runs_if_f (a := 33) (b := 22) (L := [.ref 0, .int x1, .int x2, .int x3, .null, .null]) (st := []) (w := w2) rfl h6).trans <|
    (runs_stps (q' := (23, [.ref 0, .int x1, .int x2, .int x3, .null, .null], [.ref 0], w2)) 1 rfl).trans <|
    (runs_getD (pc := 26) (L := [.ref 0, .int x1, .int x2, .int x3, .null, .null]) (st := []) (w := w2) rfl h7 (by decide)).trans <|
    (runs_stps (q' := (27, [.ref 0, .int x1, .int x2, .int x3, .null, .null], [.int x3, .ref 20], w2)) 1 rfl).trans <|
    (runs_callV (rv := some (.int r3)) (w' := w3) rfl rfl rfl rfl h8).trans <|
    (runs_if_f (a := 33) (b := 35) (L := [.ref 0, .int x1, .int x2, .int x3, .null, .null]) (st := []) (w := w3) rfl h9).trans <|
    (runs_stps (q' := (36, [.ref 0, .int x1, .int x2, .int x3, .null, .null], [.ref 0], w3)) 1 rfl).trans <|
    (runs_getD (pc := 39) (L := [.ref 0, .int x1, .int x2, .int x3, .null, .null]) (st := []) (w := w3) rfl h10 (by decide)).trans <|
    (runs_stps (q' := (43, [.ref 0, .int x1, .int x2, .int x3, .null, .null], [.int x3, .int (1 <<< (x1 &&& 31)), .ref 20], w3)) 4 rfl).trans <|
    (runs_callV (rv := some (.int r4)) (w' := w4) rfl rfl rfl rfl h11).trans <|
    (runs_if_f (a := 49) (b := 52) (L := [.ref 0, .int x1, .int x2, .int x3, .null, .null]) (st := []) (w := w4) rfl h12).trans <|
    (runs_stps (q' := (57, [.ref 0, .null, .int x2, .int x3, .null, .null], [.int x2, .ref 4], w4)) 3 rfl).trans <|
    (runs_callV (rv := some (.int r5)) (w' := w5) rfl rfl rfl rfl h13).trans <|
    (runs_stps (q' := (64, [.ref 0, .null, .int x2, .int x3, .int r5, .null], [.int r5], w5)) 2 rfl).trans <|
    (runs_callS (rv := some (.int r6)) (w' := w6) rfl rfl rfl h14).trans <|
    (runs_if_t (a := 73) (b := 70) (L := [.ref 0, .null, .int x2, .int x3, .int r5, .null]) (st := []) (w := w6) rfl h15).trans <|
    (runs_stps (q' := (74, [.ref 0, .null, .int x2, .int x3, .int r5, .null], [.ref 0], w6)) 1 rfl).trans <|
    (runs_getD (pc := 77) (L := [.ref 0, .null, .int x2, .int x3, .int r5, .null]) (st := []) (w := w6) rfl h16 (by decide)).trans <|
    (runs_stps (q' := (78, [.ref 0, .null, .int x2, .int x3, .int r5, .null], [.int x3, .ref 20], w6)) 1 rfl).trans <|
    (runs_callV (rv := some (.int r7)) (w' := w7) rfl rfl rfl rfl h17).trans <|
    (runs_stps (q' := (91, [.ref 0, .null, .int x2, .int x3, .int r5, .int r7], [.int x3, .int r5, .int x2, .ref 4], w7)) 6 rfl).trans <|
    (runs_callS (rv := some (.int r8)) (w' := w8) rfl rfl rfl h18).trans <|
    (runs_stps (q' := (96, [.ref 0, .null, .int x2, .int x3, .int r5, .int r7], [.int r7, .int r8, .int x2, .ref 4], w8)) 1 rfl).trans <|
    (runs_callV (rv := none) (w' := w9) rfl rfl rfl rfl h19).trans <|
    (runs_stps (q' := (101, [.ref 0, .null, .int x2, .int x3, .int r5, .int r7], [.int r7], w9)) 1 rfl).trans <|
    runs_ret rfl
  · exact (runs_stps (q' := (1, [.ref 0, .int x1, .int x2, .int x3, .null, .null], [.ref 0], w)) 1 rfl).trans <|
    (runs_getD (pc := 4) (L := [.ref 0, .int x1, .int x2, .int x3, .null, .null]) (st := []) (w := w) rfl h1 (by decide)).trans <|
    (runs_stps (q' := (5, [.ref 0, .int x1, .int x2, .int x3, .null, .null], [.int x1, .ref 27], w)) 1 rfl).trans <|
    (runs_callV (rv := some (.int r1)) (w' := w1) rfl rfl rfl rfl h2).trans <|
    (runs_if_f (a := 33) (b := 11) (L := [.ref 0, .int x1, .int x2, .int x3, .null, .null]) (st := []) (w := w1) rfl h3).trans <|
    (runs_stps (q' := (12, [.ref 0, .int x1, .int x2, .int x3, .null, .null], [.ref 0], w1)) 1 rfl).trans <|
    (runs_getD (pc := 15) (L := [.ref 0, .int x1, .int x2, .int x3, .null, .null]) (st := []) (w := w1) rfl h4 (by decide)).trans <|
    (runs_stps (q' := (16, [.ref 0, .int x1, .int x2, .int x3, .null, .null], [.int x2, .ref 27], w1)) 1 rfl).trans <|
    (runs_callV (rv := some (.int r2)) (w' := w2) rfl rfl rfl rfl h5).trans <|
    (runs_if_f (a := 33) (b := 22) (L := [.ref 0, .int x1, .int x2, .int x3, .null, .null]) (st := []) (w := w2) rfl h6).trans <|
    (runs_stps (q' := (23, [.ref 0, .int x1, .int x2, .int x3, .null, .null], [.ref 0], w2)) 1 rfl).trans <|
    (runs_getD (pc := 26) (L := [.ref 0, .int x1, .int x2, .int x3, .null, .null]) (st := []) (w := w2) rfl h7 (by decide)).trans <|
    (runs_stps (q' := (27, [.ref 0, .int x1, .int x2, .int x3, .null, .null], [.int x3, .ref 27], w2)) 1 rfl).trans <|
    (runs_callV (rv := some (.int r3)) (w' := w3) rfl rfl rfl rfl h8).trans <|
    (runs_if_f (a := 33) (b := 35) (L := [.ref 0, .int x1, .int x2, .int x3, .null, .null]) (st := []) (w := w3) rfl h9).trans <|
    (runs_stps (q' := (36, [.ref 0, .int x1, .int x2, .int x3, .null, .null], [.ref 0], w3)) 1 rfl).trans <|
    (runs_getD (pc := 39) (L := [.ref 0, .int x1, .int x2, .int x3, .null, .null]) (st := []) (w := w3) rfl h10 (by decide)).trans <|
    (runs_stps (q' := (43, [.ref 0, .int x1, .int x2, .int x3, .null, .null], [.int x3, .int (1 <<< (x1 &&& 31)), .ref 27], w3)) 4 rfl).trans <|
    (runs_callV (rv := some (.int r4)) (w' := w4) rfl rfl rfl rfl h11).trans <|
    (runs_if_f (a := 49) (b := 52) (L := [.ref 0, .int x1, .int x2, .int x3, .null, .null]) (st := []) (w := w4) rfl h12).trans <|
    (runs_stps (q' := (57, [.ref 0, .null, .int x2, .int x3, .null, .null], [.int x2, .ref 4], w4)) 3 rfl).trans <|
    (runs_callV (rv := some (.int r5)) (w' := w5) rfl rfl rfl rfl h13).trans <|
    (runs_stps (q' := (64, [.ref 0, .null, .int x2, .int x3, .int r5, .null], [.int r5], w5)) 2 rfl).trans <|
    (runs_callS (rv := some (.int r6)) (w' := w6) rfl rfl rfl h14).trans <|
    (runs_if_t (a := 73) (b := 70) (L := [.ref 0, .null, .int x2, .int x3, .int r5, .null]) (st := []) (w := w6) rfl h15).trans <|
    (runs_stps (q' := (74, [.ref 0, .null, .int x2, .int x3, .int r5, .null], [.ref 0], w6)) 1 rfl).trans <|
    (runs_getD (pc := 77) (L := [.ref 0, .null, .int x2, .int x3, .int r5, .null]) (st := []) (w := w6) rfl h16 (by decide)).trans <|
    (runs_stps (q' := (78, [.ref 0, .null, .int x2, .int x3, .int r5, .null], [.int x3, .ref 27], w6)) 1 rfl).trans <|
    (runs_callV (rv := some (.int r7)) (w' := w7) rfl rfl rfl rfl h17).trans <|
    (runs_stps (q' := (91, [.ref 0, .null, .int x2, .int x3, .int r5, .int r7], [.int x3, .int r5, .int x2, .ref 4], w7)) 6 rfl).trans <|
    (runs_callS (rv := some (.int r8)) (w' := w8) rfl rfl rfl h18).trans <|
    (runs_stps (q' := (96, [.ref 0, .null, .int x2, .int x3, .int r5, .int r7], [.int r7, .int r8, .int x2, .ref 4], w8)) 1 rfl).trans <|
    (runs_callV (rv := none) (w' := w9) rfl rfl rfl rfl h19).trans <|
    (runs_stps (q' := (101, [.ref 0, .null, .int x2, .int x3, .int r5, .int r7], [.int r7], w9)) 1 rfl).trans <|
    runs_ret rfl
theorem p_X8_lay_0FFTTF_R {ex : Ex} {p : Nat} {x1 : Int32} {x2 : Int32} {x3 : Int32} {r1 : Int32} {w1 : Wd} {r2 : Int32} {w2 : Wd} {r3 : Int32} {w3 : Wd} {r4 : Int32} {w4 : Wd} {r5 : Int32} {w5 : Wd} {r6 : Int32} {w6 : Wd} {w : Wd} (hp : scp p) (h1 : w.1 0 5 = nI p) (h2 : ex 61 [.ref p, .int x1] w = some (some (.int r1), w1)) (h3 : ¬ r1 = 0) (h4 : w1.1 0 5 = nI p) (h5 : ex 60 [.ref p, .int x2] w1 = some (some (.int r2), w2)) (h6 : ¬ r2 = 0) (h7 : w2.1 0 5 = nI p) (h8 : ex 59 [.ref p, .int x3] w2 = some (some (.int r3), w3)) (h9 : ¬ r3 = 0) (h10 : w3.1 0 5 = nI p) (h11 : ex 71 [.ref p, .int (1 <<< (x1 &&& 31)), .int x3] w3 = some (some (.int r4), w4)) (h12 : ¬ r4 = 0) (h13 : ex 92 [.ref 4, .int x2] w4 = some (some (.int r5), w5)) (h14 : ex 38 [.int r5] w5 = some (some (.int r6), w6)) (h15 : ¬ r6 = 0) : runs (T_X8_lay ex) (0, [.ref 0, .int x1, .int x2, .int x3, .null, .null], [], w) = some (some (.int (-3)), w6) := by
  rcases hp with rfl | rfl
  · exact (runs_stps (q' := (1, [.ref 0, .int x1, .int x2, .int x3, .null, .null], [.ref 0], w)) 1 rfl).trans <|
    (runs_getD (pc := 4) (L := [.ref 0, .int x1, .int x2, .int x3, .null, .null]) (st := []) (w := w) rfl h1 (by decide)).trans <|
    (runs_stps (q' := (5, [.ref 0, .int x1, .int x2, .int x3, .null, .null], [.int x1, .ref 20], w)) 1 rfl).trans <|
    (runs_callV (rv := some (.int r1)) (w' := w1) rfl rfl rfl rfl h2).trans <|
    (runs_if_f (a := 33) (b := 11) (L := [.ref 0, .int x1, .int x2, .int x3, .null, .null]) (st := []) (w := w1) rfl h3).trans <|
    (runs_stps (q' := (12, [.ref 0, .int x1, .int x2, .int x3, .null, .null], [.ref 0], w1)) 1 rfl).trans <|
    (runs_getD (pc := 15) (L := [.ref 0, .int x1, .int x2, .int x3, .null, .null]) (st := []) (w := w1) rfl h4 (by decide)).trans <|
    (runs_stps (q' := (16, [.ref 0, .int x1, .int x2, .int x3, .null, .null], [.int x2, .ref 20], w1)) 1 rfl).trans <|
    (runs_callV (rv := some (.int r2)) (w' := w2) rfl rfl rfl rfl h5).trans <|
    (runs_if_f (a := 33) (b := 22) (L := [.ref 0, .int x1, .int x2, .int x3, .null, .null]) (st := []) (w := w2) rfl h6).trans <|
    (runs_stps (q' := (23, [.ref 0, .int x1, .int x2, .int x3, .null, .null], [.ref 0], w2)) 1 rfl).trans <|
    (runs_getD (pc := 26) (L := [.ref 0, .int x1, .int x2, .int x3, .null, .null]) (st := []) (w := w2) rfl h7 (by decide)).trans <|
    (runs_stps (q' := (27, [.ref 0, .int x1, .int x2, .int x3, .null, .null], [.int x3, .ref 20], w2)) 1 rfl).trans <|
    (runs_callV (rv := some (.int r3)) (w' := w3) rfl rfl rfl rfl h8).trans <|
    (runs_if_f (a := 33) (b := 35) (L := [.ref 0, .int x1, .int x2, .int x3, .null, .null]) (st := []) (w := w3) rfl h9).trans <|
    (runs_stps (q' := (36, [.ref 0, .int x1, .int x2, .int x3, .null, .null], [.ref 0], w3)) 1 rfl).trans <|
    (runs_getD (pc := 39) (L := [.ref 0, .int x1, .int x2, .int x3, .null, .null]) (st := []) (w := w3) rfl h10 (by decide)).trans <|
    (runs_stps (q' := (43, [.ref 0, .int x1, .int x2, .int x3, .null, .null], [.int x3, .int (1 <<< (x1 &&& 31)), .ref 20], w3)) 4 rfl).trans <|
    (runs_callV (rv := some (.int r4)) (w' := w4) rfl rfl rfl rfl h11).trans <|
    (runs_if_f (a := 49) (b := 52) (L := [.ref 0, .int x1, .int x2, .int x3, .null, .null]) (st := []) (w := w4) rfl h12).trans <|
    (runs_stps (q' := (57, [.ref 0, .null, .int x2, .int x3, .null, .null], [.int x2, .ref 4], w4)) 3 rfl).trans <|
    (runs_callV (rv := some (.int r5)) (w' := w5) rfl rfl rfl rfl h13).trans <|
    (runs_stps (q' := (64, [.ref 0, .null, .int x2, .int x3, .int r5, .null], [.int r5], w5)) 2 rfl).trans <|
    (runs_callS (rv := some (.int r6)) (w' := w6) rfl rfl rfl h14).trans <|
    (runs_if_f (a := 73) (b := 70) (L := [.ref 0, .null, .int x2, .int x3, .int r5, .null]) (st := []) (w := w6) rfl h15).trans <|
    (runs_stps (q' := (72, [.ref 0, .null, .int x2, .int x3, .int r5, .null], [.int (-3)], w6)) 1 rfl).trans <|
    runs_ret rfl
  · exact (runs_stps (q' := (1, [.ref 0, .int x1, .int x2, .int x3, .null, .null], [.ref 0], w)) 1 rfl).trans <|
    (runs_getD (pc := 4) (L := [.ref 0, .int x1, .int x2, .int x3, .null, .null]) (st := []) (w := w) rfl h1 (by decide)).trans <|
    (runs_stps (q' := (5, [.ref 0, .int x1, .int x2, .int x3, .null, .null], [.int x1, .ref 27], w)) 1 rfl).trans <|
    (runs_callV (rv := some (.int r1)) (w' := w1) rfl rfl rfl rfl h2).trans <|
    (runs_if_f (a := 33) (b := 11) (L := [.ref 0, .int x1, .int x2, .int x3, .null, .null]) (st := []) (w := w1) rfl h3).trans <|
    (runs_stps (q' := (12, [.ref 0, .int x1, .int x2, .int x3, .null, .null], [.ref 0], w1)) 1 rfl).trans <|
    (runs_getD (pc := 15) (L := [.ref 0, .int x1, .int x2, .int x3, .null, .null]) (st := []) (w := w1) rfl h4 (by decide)).trans <|
    (runs_stps (q' := (16, [.ref 0, .int x1, .int x2, .int x3, .null, .null], [.int x2, .ref 27], w1)) 1 rfl).trans <|
    (runs_callV (rv := some (.int r2)) (w' := w2) rfl rfl rfl rfl h5).trans <|
    (runs_if_f (a := 33) (b := 22) (L := [.ref 0, .int x1, .int x2, .int x3, .null, .null]) (st := []) (w := w2) rfl h6).trans <|
    (runs_stps (q' := (23, [.ref 0, .int x1, .int x2, .int x3, .null, .null], [.ref 0], w2)) 1 rfl).trans <|
    (runs_getD (pc := 26) (L := [.ref 0, .int x1, .int x2, .int x3, .null, .null]) (st := []) (w := w2) rfl h7 (by decide)).trans <|
    (runs_stps (q' := (27, [.ref 0, .int x1, .int x2, .int x3, .null, .null], [.int x3, .ref 27], w2)) 1 rfl).trans <|
    (runs_callV (rv := some (.int r3)) (w' := w3) rfl rfl rfl rfl h8).trans <|
    (runs_if_f (a := 33) (b := 35) (L := [.ref 0, .int x1, .int x2, .int x3, .null, .null]) (st := []) (w := w3) rfl h9).trans <|
    (runs_stps (q' := (36, [.ref 0, .int x1, .int x2, .int x3, .null, .null], [.ref 0], w3)) 1 rfl).trans <|
    (runs_getD (pc := 39) (L := [.ref 0, .int x1, .int x2, .int x3, .null, .null]) (st := []) (w := w3) rfl h10 (by decide)).trans <|
    (runs_stps (q' := (43, [.ref 0, .int x1, .int x2, .int x3, .null, .null], [.int x3, .int (1 <<< (x1 &&& 31)), .ref 27], w3)) 4 rfl).trans <|
    (runs_callV (rv := some (.int r4)) (w' := w4) rfl rfl rfl rfl h11).trans <|
    (runs_if_f (a := 49) (b := 52) (L := [.ref 0, .int x1, .int x2, .int x3, .null, .null]) (st := []) (w := w4) rfl h12).trans <|
    (runs_stps (q' := (57, [.ref 0, .null, .int x2, .int x3, .null, .null], [.int x2, .ref 4], w4)) 3 rfl).trans <|
    (runs_callV (rv := some (.int r5)) (w' := w5) rfl rfl rfl rfl h13).trans <|
    (runs_stps (q' := (64, [.ref 0, .null, .int x2, .int x3, .int r5, .null], [.int r5], w5)) 2 rfl).trans <|
    (runs_callS (rv := some (.int r6)) (w' := w6) rfl rfl rfl h14).trans <|
    (runs_if_f (a := 73) (b := 70) (L := [.ref 0, .null, .int x2, .int x3, .int r5, .null]) (st := []) (w := w6) rfl h15).trans <|
    (runs_stps (q' := (72, [.ref 0, .null, .int x2, .int x3, .int r5, .null], [.int (-3)], w6)) 1 rfl).trans <|
    runs_ret rfl
theorem p_X8_lay_0FFTF_R {ex : Ex} {p : Nat} {x1 : Int32} {x2 : Int32} {x3 : Int32} {r1 : Int32} {w1 : Wd} {r2 : Int32} {w2 : Wd} {r3 : Int32} {w3 : Wd} {r4 : Int32} {w4 : Wd} {w : Wd} (hp : scp p) (h1 : w.1 0 5 = nI p) (h2 : ex 61 [.ref p, .int x1] w = some (some (.int r1), w1)) (h3 : ¬ r1 = 0) (h4 : w1.1 0 5 = nI p) (h5 : ex 60 [.ref p, .int x2] w1 = some (some (.int r2), w2)) (h6 : ¬ r2 = 0) (h7 : w2.1 0 5 = nI p) (h8 : ex 59 [.ref p, .int x3] w2 = some (some (.int r3), w3)) (h9 : ¬ r3 = 0) (h10 : w3.1 0 5 = nI p) (h11 : ex 71 [.ref p, .int (1 <<< (x1 &&& 31)), .int x3] w3 = some (some (.int r4), w4)) (h12 : r4 = 0) : runs (T_X8_lay ex) (0, [.ref 0, .int x1, .int x2, .int x3, .null, .null], [], w) = some (some (.int (-2)), w4) := by
  rcases hp with rfl | rfl
  · exact (runs_stps (q' := (1, [.ref 0, .int x1, .int x2, .int x3, .null, .null], [.ref 0], w)) 1 rfl).trans <|
    (runs_getD (pc := 4) (L := [.ref 0, .int x1, .int x2, .int x3, .null, .null]) (st := []) (w := w) rfl h1 (by decide)).trans <|
    (runs_stps (q' := (5, [.ref 0, .int x1, .int x2, .int x3, .null, .null], [.int x1, .ref 20], w)) 1 rfl).trans <|
    (runs_callV (rv := some (.int r1)) (w' := w1) rfl rfl rfl rfl h2).trans <|
    (runs_if_f (a := 33) (b := 11) (L := [.ref 0, .int x1, .int x2, .int x3, .null, .null]) (st := []) (w := w1) rfl h3).trans <|
    (runs_stps (q' := (12, [.ref 0, .int x1, .int x2, .int x3, .null, .null], [.ref 0], w1)) 1 rfl).trans <|
    (runs_getD (pc := 15) (L := [.ref 0, .int x1, .int x2, .int x3, .null, .null]) (st := []) (w := w1) rfl h4 (by decide)).trans <|
    (runs_stps (q' := (16, [.ref 0, .int x1, .int x2, .int x3, .null, .null], [.int x2, .ref 20], w1)) 1 rfl).trans <|
    (runs_callV (rv := some (.int r2)) (w' := w2) rfl rfl rfl rfl h5).trans <|
    (runs_if_f (a := 33) (b := 22) (L := [.ref 0, .int x1, .int x2, .int x3, .null, .null]) (st := []) (w := w2) rfl h6).trans <|
    (runs_stps (q' := (23, [.ref 0, .int x1, .int x2, .int x3, .null, .null], [.ref 0], w2)) 1 rfl).trans <|
    (runs_getD (pc := 26) (L := [.ref 0, .int x1, .int x2, .int x3, .null, .null]) (st := []) (w := w2) rfl h7 (by decide)).trans <|
    (runs_stps (q' := (27, [.ref 0, .int x1, .int x2, .int x3, .null, .null], [.int x3, .ref 20], w2)) 1 rfl).trans <|
    (runs_callV (rv := some (.int r3)) (w' := w3) rfl rfl rfl rfl h8).trans <|
    (runs_if_f (a := 33) (b := 35) (L := [.ref 0, .int x1, .int x2, .int x3, .null, .null]) (st := []) (w := w3) rfl h9).trans <|
    (runs_stps (q' := (36, [.ref 0, .int x1, .int x2, .int x3, .null, .null], [.ref 0], w3)) 1 rfl).trans <|
    (runs_getD (pc := 39) (L := [.ref 0, .int x1, .int x2, .int x3, .null, .null]) (st := []) (w := w3) rfl h10 (by decide)).trans <|
    (runs_stps (q' := (43, [.ref 0, .int x1, .int x2, .int x3, .null, .null], [.int x3, .int (1 <<< (x1 &&& 31)), .ref 20], w3)) 4 rfl).trans <|
    (runs_callV (rv := some (.int r4)) (w' := w4) rfl rfl rfl rfl h11).trans <|
    (runs_if_t (a := 49) (b := 52) (L := [.ref 0, .int x1, .int x2, .int x3, .null, .null]) (st := []) (w := w4) rfl h12).trans <|
    (runs_stps (q' := (51, [.ref 0, .int x1, .int x2, .int x3, .null, .null], [.int (-2)], w4)) 1 rfl).trans <|
    runs_ret rfl
  · exact (runs_stps (q' := (1, [.ref 0, .int x1, .int x2, .int x3, .null, .null], [.ref 0], w)) 1 rfl).trans <|
    (runs_getD (pc := 4) (L := [.ref 0, .int x1, .int x2, .int x3, .null, .null]) (st := []) (w := w) rfl h1 (by decide)).trans <|
    (runs_stps (q' := (5, [.ref 0, .int x1, .int x2, .int x3, .null, .null], [.int x1, .ref 27], w)) 1 rfl).trans <|
    (runs_callV (rv := some (.int r1)) (w' := w1) rfl rfl rfl rfl h2).trans <|
    (runs_if_f (a := 33) (b := 11) (L := [.ref 0, .int x1, .int x2, .int x3, .null, .null]) (st := []) (w := w1) rfl h3).trans <|
    (runs_stps (q' := (12, [.ref 0, .int x1, .int x2, .int x3, .null, .null], [.ref 0], w1)) 1 rfl).trans <|
    (runs_getD (pc := 15) (L := [.ref 0, .int x1, .int x2, .int x3, .null, .null]) (st := []) (w := w1) rfl h4 (by decide)).trans <|
    (runs_stps (q' := (16, [.ref 0, .int x1, .int x2, .int x3, .null, .null], [.int x2, .ref 27], w1)) 1 rfl).trans <|
    (runs_callV (rv := some (.int r2)) (w' := w2) rfl rfl rfl rfl h5).trans <|
    (runs_if_f (a := 33) (b := 22) (L := [.ref 0, .int x1, .int x2, .int x3, .null, .null]) (st := []) (w := w2) rfl h6).trans <|
    (runs_stps (q' := (23, [.ref 0, .int x1, .int x2, .int x3, .null, .null], [.ref 0], w2)) 1 rfl).trans <|
    (runs_getD (pc := 26) (L := [.ref 0, .int x1, .int x2, .int x3, .null, .null]) (st := []) (w := w2) rfl h7 (by decide)).trans <|
    (runs_stps (q' := (27, [.ref 0, .int x1, .int x2, .int x3, .null, .null], [.int x3, .ref 27], w2)) 1 rfl).trans <|
    (runs_callV (rv := some (.int r3)) (w' := w3) rfl rfl rfl rfl h8).trans <|
    (runs_if_f (a := 33) (b := 35) (L := [.ref 0, .int x1, .int x2, .int x3, .null, .null]) (st := []) (w := w3) rfl h9).trans <|
    (runs_stps (q' := (36, [.ref 0, .int x1, .int x2, .int x3, .null, .null], [.ref 0], w3)) 1 rfl).trans <|
    (runs_getD (pc := 39) (L := [.ref 0, .int x1, .int x2, .int x3, .null, .null]) (st := []) (w := w3) rfl h10 (by decide)).trans <|
    (runs_stps (q' := (43, [.ref 0, .int x1, .int x2, .int x3, .null, .null], [.int x3, .int (1 <<< (x1 &&& 31)), .ref 27], w3)) 4 rfl).trans <|
    (runs_callV (rv := some (.int r4)) (w' := w4) rfl rfl rfl rfl h11).trans <|
    (runs_if_t (a := 49) (b := 52) (L := [.ref 0, .int x1, .int x2, .int x3, .null, .null]) (st := []) (w := w4) rfl h12).trans <|
    (runs_stps (q' := (51, [.ref 0, .int x1, .int x2, .int x3, .null, .null], [.int (-2)], w4)) 1 rfl).trans <|
    runs_ret rfl
theorem p_X8_lay_0FFF_R {ex : Ex} {p : Nat} {x1 : Int32} {x2 : Int32} {x3 : Int32} {r1 : Int32} {w1 : Wd} {r2 : Int32} {w2 : Wd} {r3 : Int32} {w3 : Wd} {w : Wd} (hp : scp p) (h1 : w.1 0 5 = nI p) (h2 : ex 61 [.ref p, .int x1] w = some (some (.int r1), w1)) (h3 : ¬ r1 = 0) (h4 : w1.1 0 5 = nI p) (h5 : ex 60 [.ref p, .int x2] w1 = some (some (.int r2), w2)) (h6 : ¬ r2 = 0) (h7 : w2.1 0 5 = nI p) (h8 : ex 59 [.ref p, .int x3] w2 = some (some (.int r3), w3)) (h9 : r3 = 0) : runs (T_X8_lay ex) (0, [.ref 0, .int x1, .int x2, .int x3, .null, .null], [], w) = some (some (.int (-1)), w3) := by
  rcases hp with rfl | rfl
  · exact (runs_stps (q' := (1, [.ref 0, .int x1, .int x2, .int x3, .null, .null], [.ref 0], w)) 1 rfl).trans <|
    (runs_getD (pc := 4) (L := [.ref 0, .int x1, .int x2, .int x3, .null, .null]) (st := []) (w := w) rfl h1 (by decide)).trans <|
    (runs_stps (q' := (5, [.ref 0, .int x1, .int x2, .int x3, .null, .null], [.int x1, .ref 20], w)) 1 rfl).trans <|
    (runs_callV (rv := some (.int r1)) (w' := w1) rfl rfl rfl rfl h2).trans <|
    (runs_if_f (a := 33) (b := 11) (L := [.ref 0, .int x1, .int x2, .int x3, .null, .null]) (st := []) (w := w1) rfl h3).trans <|
    (runs_stps (q' := (12, [.ref 0, .int x1, .int x2, .int x3, .null, .null], [.ref 0], w1)) 1 rfl).trans <|
    (runs_getD (pc := 15) (L := [.ref 0, .int x1, .int x2, .int x3, .null, .null]) (st := []) (w := w1) rfl h4 (by decide)).trans <|
    (runs_stps (q' := (16, [.ref 0, .int x1, .int x2, .int x3, .null, .null], [.int x2, .ref 20], w1)) 1 rfl).trans <|
    (runs_callV (rv := some (.int r2)) (w' := w2) rfl rfl rfl rfl h5).trans <|
    (runs_if_f (a := 33) (b := 22) (L := [.ref 0, .int x1, .int x2, .int x3, .null, .null]) (st := []) (w := w2) rfl h6).trans <|
    (runs_stps (q' := (23, [.ref 0, .int x1, .int x2, .int x3, .null, .null], [.ref 0], w2)) 1 rfl).trans <|
    (runs_getD (pc := 26) (L := [.ref 0, .int x1, .int x2, .int x3, .null, .null]) (st := []) (w := w2) rfl h7 (by decide)).trans <|
    (runs_stps (q' := (27, [.ref 0, .int x1, .int x2, .int x3, .null, .null], [.int x3, .ref 20], w2)) 1 rfl).trans <|
    (runs_callV (rv := some (.int r3)) (w' := w3) rfl rfl rfl rfl h8).trans <|
    (runs_if_t (a := 33) (b := 35) (L := [.ref 0, .int x1, .int x2, .int x3, .null, .null]) (st := []) (w := w3) rfl h9).trans <|
    (runs_stps (q' := (34, [.null, .null, .null, .null, .null, .null], [.int (-1)], w3)) 1 rfl).trans <|
    runs_ret rfl
  · exact (runs_stps (q' := (1, [.ref 0, .int x1, .int x2, .int x3, .null, .null], [.ref 0], w)) 1 rfl).trans <|
    (runs_getD (pc := 4) (L := [.ref 0, .int x1, .int x2, .int x3, .null, .null]) (st := []) (w := w) rfl h1 (by decide)).trans <|
    (runs_stps (q' := (5, [.ref 0, .int x1, .int x2, .int x3, .null, .null], [.int x1, .ref 27], w)) 1 rfl).trans <|
    (runs_callV (rv := some (.int r1)) (w' := w1) rfl rfl rfl rfl h2).trans <|
    (runs_if_f (a := 33) (b := 11) (L := [.ref 0, .int x1, .int x2, .int x3, .null, .null]) (st := []) (w := w1) rfl h3).trans <|
    (runs_stps (q' := (12, [.ref 0, .int x1, .int x2, .int x3, .null, .null], [.ref 0], w1)) 1 rfl).trans <|
    (runs_getD (pc := 15) (L := [.ref 0, .int x1, .int x2, .int x3, .null, .null]) (st := []) (w := w1) rfl h4 (by decide)).trans <|
    (runs_stps (q' := (16, [.ref 0, .int x1, .int x2, .int x3, .null, .null], [.int x2, .ref 27], w1)) 1 rfl).trans <|
    (runs_callV (rv := some (.int r2)) (w' := w2) rfl rfl rfl rfl h5).trans <|
    (runs_if_f (a := 33) (b := 22) (L := [.ref 0, .int x1, .int x2, .int x3, .null, .null]) (st := []) (w := w2) rfl h6).trans <|
    (runs_stps (q' := (23, [.ref 0, .int x1, .int x2, .int x3, .null, .null], [.ref 0], w2)) 1 rfl).trans <|
    (runs_getD (pc := 26) (L := [.ref 0, .int x1, .int x2, .int x3, .null, .null]) (st := []) (w := w2) rfl h7 (by decide)).trans <|
    (runs_stps (q' := (27, [.ref 0, .int x1, .int x2, .int x3, .null, .null], [.int x3, .ref 27], w2)) 1 rfl).trans <|
    (runs_callV (rv := some (.int r3)) (w' := w3) rfl rfl rfl rfl h8).trans <|
    (runs_if_t (a := 33) (b := 35) (L := [.ref 0, .int x1, .int x2, .int x3, .null, .null]) (st := []) (w := w3) rfl h9).trans <|
    (runs_stps (q' := (34, [.null, .null, .null, .null, .null, .null], [.int (-1)], w3)) 1 rfl).trans <|
    runs_ret rfl
theorem p_X8_lift_0T_R {ex : Ex} {p : Nat} {x1 : Int32} {x2 : Int32} {r1 : Int32} {w1 : Wd} {w : Wd} (hp : scp p) (h1 : w.1 0 5 = nI p) (h2 : ex 61 [.ref p, .int x1] w = some (some (.int r1), w1)) (h3 : r1 = 0) : runs (T_X8_lift ex) (0, [.ref 0, .int x1, .int x2, .null, .null], [], w) = some (some (.int (-1)), w1) := by
  rcases hp with rfl | rfl
  · exact (runs_stps (q' := (1, [.ref 0, .int x1, .int x2, .null, .null], [.ref 0], w)) 1 rfl).trans <|
    (runs_getD (pc := 4) (L := [.ref 0, .int x1, .int x2, .null, .null]) (st := []) (w := w) rfl h1 (by decide)).trans <|
    (runs_stps (q' := (5, [.ref 0, .int x1, .int x2, .null, .null], [.int x1, .ref 20], w)) 1 rfl).trans <|
    (runs_callV (rv := some (.int r1)) (w' := w1) rfl rfl rfl rfl h2).trans <|
    (runs_if_t (a := 22) (b := 11) (L := [.ref 0, .int x1, .int x2, .null, .null]) (st := []) (w := w1) rfl h3).trans <|
    (runs_stps (q' := (23, [.null, .null, .null, .null, .null], [.int (-1)], w1)) 1 rfl).trans <|
    runs_ret rfl
  · exact (runs_stps (q' := (1, [.ref 0, .int x1, .int x2, .null, .null], [.ref 0], w)) 1 rfl).trans <|
    (runs_getD (pc := 4) (L := [.ref 0, .int x1, .int x2, .null, .null]) (st := []) (w := w) rfl h1 (by decide)).trans <|
    (runs_stps (q' := (5, [.ref 0, .int x1, .int x2, .null, .null], [.int x1, .ref 27], w)) 1 rfl).trans <|
    (runs_callV (rv := some (.int r1)) (w' := w1) rfl rfl rfl rfl h2).trans <|
    (runs_if_t (a := 22) (b := 11) (L := [.ref 0, .int x1, .int x2, .null, .null]) (st := []) (w := w1) rfl h3).trans <|
    (runs_stps (q' := (23, [.null, .null, .null, .null, .null], [.int (-1)], w1)) 1 rfl).trans <|
    runs_ret rfl
theorem p_X8_lift_0FTT_R {ex : Ex} {p : Nat} {x1 : Int32} {x2 : Int32} {r1 : Int32} {w1 : Wd} {r2 : Int32} {w2 : Wd} {r3 : Int32} {w3 : Wd} {r4 : Int32} {w4 : Wd} {r5 : Int32} {w5 : Wd} {w6 : Wd} {r7 : Int32} {w7 : Wd} {w : Wd} (hp : scp p) (h1 : w.1 0 5 = nI p) (h2 : ex 61 [.ref p, .int x1] w = some (some (.int r1), w1)) (h3 : ¬ r1 = 0) (h4 : w1.1 0 5 = nI p) (h5 : ex 60 [.ref p, .int x2] w1 = some (some (.int r2), w2)) (h6 : ¬ r2 = 0) (h7 : ex 92 [.ref 4, .int x2] w2 = some (some (.int r3), w3)) (h8 : w3.1 0 5 = nI p) (h9 : ex 76 [.ref p, .int r3, .int (1 <<< (x1 &&& 31)), .int 5] w3 = some (some (.int r4), w4)) (h10 : 0 ≤ r4) (h11 : w4.1 0 5 = nI p) (h12 : ex 77 [.ref p, .int r3, .int 5] w4 = some (some (.int r5), w5)) (h13 : ex 95 [.ref 4, .int x2, .int r4, .int r5] w5 = some (none, w6)) (h14 : ex 40 [.int r3] w6 = some (some (.int r7), w7)) : runs (T_X8_lift ex) (0, [.ref 0, .int x1, .int x2, .null, .null], [], w) = some (some (.int r7), w7) := by
  rcases hp with rfl | rfl
  · exact (runs_stps (q' := (1, [.ref 0, .int x1, .int x2, .null, .null], [.ref 0], w)) 1 rfl).trans <|
    (runs_getD (pc := 4) (L := [.ref 0, .int x1, .int x2, .null, .null]) (st := []) (w := w) rfl h1 (by decide)).trans <|
    (runs_stps (q' := (5, [.ref 0, .int x1, .int x2, .null, .null], [.int x1, .ref 20], w)) 1 rfl).trans <|
    (runs_callV (rv := some (.int r1)) (w' := w1) rfl rfl rfl rfl h2).trans <|
    (runs_if_f (a := 22) (b := 11) (L := [.ref 0, .int x1, .int x2, .null, .null]) (st := []) (w := w1) rfl h3).trans <|
    (runs_stps (q' := (12, [.ref 0, .int x1, .int x2, .null, .null], [.ref 0], w1)) 1 rfl).trans <|
    (runs_getD (pc := 15) (L := [.ref 0, .int x1, .int x2, .null, .null]) (st := []) (w := w1) rfl h4 (by decide)).trans <|
    (runs_stps (q' := (16, [.ref 0, .int x1, .int x2, .null, .null], [.int x2, .ref 20], w1)) 1 rfl).trans <|
    (runs_callV (rv := some (.int r2)) (w' := w2) rfl rfl rfl rfl h5).trans <|
    (runs_if_f (a := 22) (b := 24) (L := [.ref 0, .int x1, .int x2, .null, .null]) (st := []) (w := w2) rfl h6).trans <|
    (runs_stps (q' := (29, [.ref 0, .int x1, .int x2, .null, .null], [.int x2, .ref 4], w2)) 3 rfl).trans <|
    (runs_callV (rv := some (.int r3)) (w' := w3) rfl rfl rfl rfl h7).trans <|
    (runs_stps (q' := (34, [.ref 0, .int x1, .int x2, .int r3, .null], [.ref 0], w3)) 2 rfl).trans <|
    (runs_getD (pc := 37) (L := [.ref 0, .int x1, .int x2, .int r3, .null]) (st := []) (w := w3) rfl h8 (by decide)).trans <|
    (runs_stps (q' := (42, [.ref 0, .int x1, .int x2, .int r3, .null], [.int 5, .int (1 <<< (x1 &&& 31)), .int r3, .ref 20], w3)) 5 rfl).trans <|
    (runs_callV (rv := some (.int r4)) (w' := w4) rfl rfl rfl rfl h9).trans <|
    (runs_stps (q' := (49, [.ref 0, .int x1, .int x2, .int r3, .int r4], [.int r4], w4)) 2 rfl).trans <|
    (runs_if_t (a := 55) (b := 52) (L := [.ref 0, .int x1, .int x2, .int r3, .int r4]) (st := []) (w := w4) rfl h10).trans <|
    (runs_stps (q' := (63, [.ref 0, .null, .int x2, .int r3, .int r4], [.ref 0, .int r4, .int x2, .ref 4], w4)) 5 rfl).trans <|
    (runs_getD (pc := 66) (L := [.ref 0, .null, .int x2, .int r3, .int r4]) (st := [.int r4, .int x2, .ref 4]) (w := w4) rfl h11 (by decide)).trans <|
    (runs_stps (q' := (68, [.ref 0, .null, .int x2, .int r3, .int r4], [.int 5, .int r3, .ref 20, .int r4, .int x2, .ref 4], w4)) 2 rfl).trans <|
    (runs_callV (rv := some (.int r5)) (w' := w5) rfl rfl rfl rfl h12).trans <|
    (runs_callV (rv := none) (w' := w6) rfl rfl rfl rfl h13).trans <|
    (runs_stps (q' := (75, [.ref 0, .null, .int x2, .int r3, .int r4], [.int r3], w6)) 1 rfl).trans <|
    (runs_callS (rv := some (.int r7)) (w' := w7) rfl rfl rfl h14).trans <|
    runs_ret rfl
  · exact (runs_stps (q' := (1, [.ref 0, .int x1, .int x2, .null, .null], [.ref 0], w)) 1 rfl).trans <|
    (runs_getD (pc := 4) (L := [.ref 0, .int x1, .int x2, .null, .null]) (st := []) (w := w) rfl h1 (by decide)).trans <|
    (runs_stps (q' := (5, [.ref 0, .int x1, .int x2, .null, .null], [.int x1, .ref 27], w)) 1 rfl).trans <|
    (runs_callV (rv := some (.int r1)) (w' := w1) rfl rfl rfl rfl h2).trans <|
    (runs_if_f (a := 22) (b := 11) (L := [.ref 0, .int x1, .int x2, .null, .null]) (st := []) (w := w1) rfl h3).trans <|
    (runs_stps (q' := (12, [.ref 0, .int x1, .int x2, .null, .null], [.ref 0], w1)) 1 rfl).trans <|
    (runs_getD (pc := 15) (L := [.ref 0, .int x1, .int x2, .null, .null]) (st := []) (w := w1) rfl h4 (by decide)).trans <|
    (runs_stps (q' := (16, [.ref 0, .int x1, .int x2, .null, .null], [.int x2, .ref 27], w1)) 1 rfl).trans <|
    (runs_callV (rv := some (.int r2)) (w' := w2) rfl rfl rfl rfl h5).trans <|
    (runs_if_f (a := 22) (b := 24) (L := [.ref 0, .int x1, .int x2, .null, .null]) (st := []) (w := w2) rfl h6).trans <|
    (runs_stps (q' := (29, [.ref 0, .int x1, .int x2, .null, .null], [.int x2, .ref 4], w2)) 3 rfl).trans <|
    (runs_callV (rv := some (.int r3)) (w' := w3) rfl rfl rfl rfl h7).trans <|
    (runs_stps (q' := (34, [.ref 0, .int x1, .int x2, .int r3, .null], [.ref 0], w3)) 2 rfl).trans <|
    (runs_getD (pc := 37) (L := [.ref 0, .int x1, .int x2, .int r3, .null]) (st := []) (w := w3) rfl h8 (by decide)).trans <|
    (runs_stps (q' := (42, [.ref 0, .int x1, .int x2, .int r3, .null], [.int 5, .int (1 <<< (x1 &&& 31)), .int r3, .ref 27], w3)) 5 rfl).trans <|
    (runs_callV (rv := some (.int r4)) (w' := w4) rfl rfl rfl rfl h9).trans <|
    (runs_stps (q' := (49, [.ref 0, .int x1, .int x2, .int r3, .int r4], [.int r4], w4)) 2 rfl).trans <|
    (runs_if_t (a := 55) (b := 52) (L := [.ref 0, .int x1, .int x2, .int r3, .int r4]) (st := []) (w := w4) rfl h10).trans <|
    (runs_stps (q' := (63, [.ref 0, .null, .int x2, .int r3, .int r4], [.ref 0, .int r4, .int x2, .ref 4], w4)) 5 rfl).trans <|
    (runs_getD (pc := 66) (L := [.ref 0, .null, .int x2, .int r3, .int r4]) (st := [.int r4, .int x2, .ref 4]) (w := w4) rfl h11 (by decide)).trans <|
    (runs_stps (q' := (68, [.ref 0, .null, .int x2, .int r3, .int r4], [.int 5, .int r3, .ref 27, .int r4, .int x2, .ref 4], w4)) 2 rfl).trans <|
    (runs_callV (rv := some (.int r5)) (w' := w5) rfl rfl rfl rfl h12).trans <|
    (runs_callV (rv := none) (w' := w6) rfl rfl rfl rfl h13).trans <|
    (runs_stps (q' := (75, [.ref 0, .null, .int x2, .int r3, .int r4], [.int r3], w6)) 1 rfl).trans <|
    (runs_callS (rv := some (.int r7)) (w' := w7) rfl rfl rfl h14).trans <|
    runs_ret rfl
theorem p_X8_lift_0FTF_R {ex : Ex} {p : Nat} {x1 : Int32} {x2 : Int32} {r1 : Int32} {w1 : Wd} {r2 : Int32} {w2 : Wd} {r3 : Int32} {w3 : Wd} {r4 : Int32} {w4 : Wd} {w : Wd} (hp : scp p) (h1 : w.1 0 5 = nI p) (h2 : ex 61 [.ref p, .int x1] w = some (some (.int r1), w1)) (h3 : ¬ r1 = 0) (h4 : w1.1 0 5 = nI p) (h5 : ex 60 [.ref p, .int x2] w1 = some (some (.int r2), w2)) (h6 : ¬ r2 = 0) (h7 : ex 92 [.ref 4, .int x2] w2 = some (some (.int r3), w3)) (h8 : w3.1 0 5 = nI p) (h9 : ex 76 [.ref p, .int r3, .int (1 <<< (x1 &&& 31)), .int 5] w3 = some (some (.int r4), w4)) (h10 : ¬ 0 ≤ r4) : runs (T_X8_lift ex) (0, [.ref 0, .int x1, .int x2, .null, .null], [], w) = some (some (.int (-2)), w4) := by
  rcases hp with rfl | rfl
  · exact (runs_stps (q' := (1, [.ref 0, .int x1, .int x2, .null, .null], [.ref 0], w)) 1 rfl).trans <|
    (runs_getD (pc := 4) (L := [.ref 0, .int x1, .int x2, .null, .null]) (st := []) (w := w) rfl h1 (by decide)).trans <|
    (runs_stps (q' := (5, [.ref 0, .int x1, .int x2, .null, .null], [.int x1, .ref 20], w)) 1 rfl).trans <|
    (runs_callV (rv := some (.int r1)) (w' := w1) rfl rfl rfl rfl h2).trans <|
    (runs_if_f (a := 22) (b := 11) (L := [.ref 0, .int x1, .int x2, .null, .null]) (st := []) (w := w1) rfl h3).trans <|
    (runs_stps (q' := (12, [.ref 0, .int x1, .int x2, .null, .null], [.ref 0], w1)) 1 rfl).trans <|
    (runs_getD (pc := 15) (L := [.ref 0, .int x1, .int x2, .null, .null]) (st := []) (w := w1) rfl h4 (by decide)).trans <|
    (runs_stps (q' := (16, [.ref 0, .int x1, .int x2, .null, .null], [.int x2, .ref 20], w1)) 1 rfl).trans <|
    (runs_callV (rv := some (.int r2)) (w' := w2) rfl rfl rfl rfl h5).trans <|
    (runs_if_f (a := 22) (b := 24) (L := [.ref 0, .int x1, .int x2, .null, .null]) (st := []) (w := w2) rfl h6).trans <|
    (runs_stps (q' := (29, [.ref 0, .int x1, .int x2, .null, .null], [.int x2, .ref 4], w2)) 3 rfl).trans <|
    (runs_callV (rv := some (.int r3)) (w' := w3) rfl rfl rfl rfl h7).trans <|
    (runs_stps (q' := (34, [.ref 0, .int x1, .int x2, .int r3, .null], [.ref 0], w3)) 2 rfl).trans <|
    (runs_getD (pc := 37) (L := [.ref 0, .int x1, .int x2, .int r3, .null]) (st := []) (w := w3) rfl h8 (by decide)).trans <|
    (runs_stps (q' := (42, [.ref 0, .int x1, .int x2, .int r3, .null], [.int 5, .int (1 <<< (x1 &&& 31)), .int r3, .ref 20], w3)) 5 rfl).trans <|
    (runs_callV (rv := some (.int r4)) (w' := w4) rfl rfl rfl rfl h9).trans <|
    (runs_stps (q' := (49, [.ref 0, .int x1, .int x2, .int r3, .int r4], [.int r4], w4)) 2 rfl).trans <|
    (runs_if_f (a := 55) (b := 52) (L := [.ref 0, .int x1, .int x2, .int r3, .int r4]) (st := []) (w := w4) rfl h10).trans <|
    (runs_stps (q' := (54, [.ref 0, .int x1, .int x2, .int r3, .int r4], [.int (-2)], w4)) 1 rfl).trans <|
    runs_ret rfl
  · exact (runs_stps (q' := (1, [.ref 0, .int x1, .int x2, .null, .null], [.ref 0], w)) 1 rfl).trans <|
    (runs_getD (pc := 4) (L := [.ref 0, .int x1, .int x2, .null, .null]) (st := []) (w := w) rfl h1 (by decide)).trans <|
    (runs_stps (q' := (5, [.ref 0, .int x1, .int x2, .null, .null], [.int x1, .ref 27], w)) 1 rfl).trans <|
    (runs_callV (rv := some (.int r1)) (w' := w1) rfl rfl rfl rfl h2).trans <|
    (runs_if_f (a := 22) (b := 11) (L := [.ref 0, .int x1, .int x2, .null, .null]) (st := []) (w := w1) rfl h3).trans <|
    (runs_stps (q' := (12, [.ref 0, .int x1, .int x2, .null, .null], [.ref 0], w1)) 1 rfl).trans <|
    (runs_getD (pc := 15) (L := [.ref 0, .int x1, .int x2, .null, .null]) (st := []) (w := w1) rfl h4 (by decide)).trans <|
    (runs_stps (q' := (16, [.ref 0, .int x1, .int x2, .null, .null], [.int x2, .ref 27], w1)) 1 rfl).trans <|
    (runs_callV (rv := some (.int r2)) (w' := w2) rfl rfl rfl rfl h5).trans <|
    (runs_if_f (a := 22) (b := 24) (L := [.ref 0, .int x1, .int x2, .null, .null]) (st := []) (w := w2) rfl h6).trans <|
    (runs_stps (q' := (29, [.ref 0, .int x1, .int x2, .null, .null], [.int x2, .ref 4], w2)) 3 rfl).trans <|
    (runs_callV (rv := some (.int r3)) (w' := w3) rfl rfl rfl rfl h7).trans <|
    (runs_stps (q' := (34, [.ref 0, .int x1, .int x2, .int r3, .null], [.ref 0], w3)) 2 rfl).trans <|
    (runs_getD (pc := 37) (L := [.ref 0, .int x1, .int x2, .int r3, .null]) (st := []) (w := w3) rfl h8 (by decide)).trans <|
    (runs_stps (q' := (42, [.ref 0, .int x1, .int x2, .int r3, .null], [.int 5, .int (1 <<< (x1 &&& 31)), .int r3, .ref 27], w3)) 5 rfl).trans <|
    (runs_callV (rv := some (.int r4)) (w' := w4) rfl rfl rfl rfl h9).trans <|
    (runs_stps (q' := (49, [.ref 0, .int x1, .int x2, .int r3, .int r4], [.int r4], w4)) 2 rfl).trans <|
    (runs_if_f (a := 55) (b := 52) (L := [.ref 0, .int x1, .int x2, .int r3, .int r4]) (st := []) (w := w4) rfl h10).trans <|
    (runs_stps (q' := (54, [.ref 0, .int x1, .int x2, .int r3, .int r4], [.int (-2)], w4)) 1 rfl).trans <|
    runs_ret rfl
theorem p_X8_lift_0FF_R {ex : Ex} {p : Nat} {x1 : Int32} {x2 : Int32} {r1 : Int32} {w1 : Wd} {r2 : Int32} {w2 : Wd} {w : Wd} (hp : scp p) (h1 : w.1 0 5 = nI p) (h2 : ex 61 [.ref p, .int x1] w = some (some (.int r1), w1)) (h3 : ¬ r1 = 0) (h4 : w1.1 0 5 = nI p) (h5 : ex 60 [.ref p, .int x2] w1 = some (some (.int r2), w2)) (h6 : r2 = 0) : runs (T_X8_lift ex) (0, [.ref 0, .int x1, .int x2, .null, .null], [], w) = some (some (.int (-1)), w2) := by
  rcases hp with rfl | rfl
  · exact (runs_stps (q' := (1, [.ref 0, .int x1, .int x2, .null, .null], [.ref 0], w)) 1 rfl).trans <|
    (runs_getD (pc := 4) (L := [.ref 0, .int x1, .int x2, .null, .null]) (st := []) (w := w) rfl h1 (by decide)).trans <|
    (runs_stps (q' := (5, [.ref 0, .int x1, .int x2, .null, .null], [.int x1, .ref 20], w)) 1 rfl).trans <|
    (runs_callV (rv := some (.int r1)) (w' := w1) rfl rfl rfl rfl h2).trans <|
    (runs_if_f (a := 22) (b := 11) (L := [.ref 0, .int x1, .int x2, .null, .null]) (st := []) (w := w1) rfl h3).trans <|
    (runs_stps (q' := (12, [.ref 0, .int x1, .int x2, .null, .null], [.ref 0], w1)) 1 rfl).trans <|
    (runs_getD (pc := 15) (L := [.ref 0, .int x1, .int x2, .null, .null]) (st := []) (w := w1) rfl h4 (by decide)).trans <|
    (runs_stps (q' := (16, [.ref 0, .int x1, .int x2, .null, .null], [.int x2, .ref 20], w1)) 1 rfl).trans <|
    (runs_callV (rv := some (.int r2)) (w' := w2) rfl rfl rfl rfl h5).trans <|
    (runs_if_t (a := 22) (b := 24) (L := [.ref 0, .int x1, .int x2, .null, .null]) (st := []) (w := w2) rfl h6).trans <|
    (runs_stps (q' := (23, [.null, .null, .null, .null, .null], [.int (-1)], w2)) 1 rfl).trans <|
    runs_ret rfl
  · exact (runs_stps (q' := (1, [.ref 0, .int x1, .int x2, .null, .null], [.ref 0], w)) 1 rfl).trans <|
    (runs_getD (pc := 4) (L := [.ref 0, .int x1, .int x2, .null, .null]) (st := []) (w := w) rfl h1 (by decide)).trans <|
    (runs_stps (q' := (5, [.ref 0, .int x1, .int x2, .null, .null], [.int x1, .ref 27], w)) 1 rfl).trans <|
    (runs_callV (rv := some (.int r1)) (w' := w1) rfl rfl rfl rfl h2).trans <|
    (runs_if_f (a := 22) (b := 11) (L := [.ref 0, .int x1, .int x2, .null, .null]) (st := []) (w := w1) rfl h3).trans <|
    (runs_stps (q' := (12, [.ref 0, .int x1, .int x2, .null, .null], [.ref 0], w1)) 1 rfl).trans <|
    (runs_getD (pc := 15) (L := [.ref 0, .int x1, .int x2, .null, .null]) (st := []) (w := w1) rfl h4 (by decide)).trans <|
    (runs_stps (q' := (16, [.ref 0, .int x1, .int x2, .null, .null], [.int x2, .ref 27], w1)) 1 rfl).trans <|
    (runs_callV (rv := some (.int r2)) (w' := w2) rfl rfl rfl rfl h5).trans <|
    (runs_if_t (a := 22) (b := 24) (L := [.ref 0, .int x1, .int x2, .null, .null]) (st := []) (w := w2) rfl h6).trans <|
    (runs_stps (q' := (23, [.null, .null, .null, .null, .null], [.int (-1)], w2)) 1 rfl).trans <|
    runs_ret rfl
theorem p_X8_swap_0T_R {ex : Ex} {p : Nat} {x1 : Int32} {x2 : Int32} {r1 : Int32} {w1 : Wd} {w : Wd} (hp : scp p) (h1 : w.1 0 5 = nI p) (h2 : ex 61 [.ref p, .int x1] w = some (some (.int r1), w1)) (h3 : r1 = 0) : runs (T_X8_swap ex) (0, [.ref 0, .int x1, .int x2, .null, .null], [], w) = some (some (.int (-1)), w1) := by
  rcases hp with rfl | rfl
  · exact (runs_stps (q' := (1, [.ref 0, .int x1, .int x2, .null, .null], [.ref 0], w)) 1 rfl).trans <|
    (runs_getD (pc := 4) (L := [.ref 0, .int x1, .int x2, .null, .null]) (st := []) (w := w) rfl h1 (by decide)).trans <|
    (runs_stps (q' := (5, [.ref 0, .int x1, .int x2, .null, .null], [.int x1, .ref 20], w)) 1 rfl).trans <|
    (runs_callV (rv := some (.int r1)) (w' := w1) rfl rfl rfl rfl h2).trans <|
    (runs_if_t (a := 22) (b := 11) (L := [.ref 0, .int x1, .int x2, .null, .null]) (st := []) (w := w1) rfl h3).trans <|
    (runs_stps (q' := (23, [.null, .null, .null, .null, .null], [.int (-1)], w1)) 1 rfl).trans <|
    runs_ret rfl
  · exact (runs_stps (q' := (1, [.ref 0, .int x1, .int x2, .null, .null], [.ref 0], w)) 1 rfl).trans <|
    (runs_getD (pc := 4) (L := [.ref 0, .int x1, .int x2, .null, .null]) (st := []) (w := w) rfl h1 (by decide)).trans <|
    (runs_stps (q' := (5, [.ref 0, .int x1, .int x2, .null, .null], [.int x1, .ref 27], w)) 1 rfl).trans <|
    (runs_callV (rv := some (.int r1)) (w' := w1) rfl rfl rfl rfl h2).trans <|
    (runs_if_t (a := 22) (b := 11) (L := [.ref 0, .int x1, .int x2, .null, .null]) (st := []) (w := w1) rfl h3).trans <|
    (runs_stps (q' := (23, [.null, .null, .null, .null, .null], [.int (-1)], w1)) 1 rfl).trans <|
    runs_ret rfl
theorem p_X8_swap_0FTT_R {ex : Ex} {p : Nat} {x1 : Int32} {x2 : Int32} {r1 : Int32} {w1 : Wd} {r2 : Int32} {w2 : Wd} {r3 : Int32} {w3 : Wd} {r4 : Int32} {w4 : Wd} {r5 : Int32} {w5 : Wd} {w6 : Wd} {r7 : Int32} {w7 : Wd} {w : Wd} (hp : scp p) (h1 : w.1 0 5 = nI p) (h2 : ex 61 [.ref p, .int x1] w = some (some (.int r1), w1)) (h3 : ¬ r1 = 0) (h4 : w1.1 0 5 = nI p) (h5 : ex 60 [.ref p, .int x2] w1 = some (some (.int r2), w2)) (h6 : ¬ r2 = 0) (h7 : ex 92 [.ref 4, .int x2] w2 = some (some (.int r3), w3)) (h8 : w3.1 0 5 = nI p) (h9 : ex 76 [.ref p, .int r3, .int (1 <<< (x1 &&& 31)), .int 6] w3 = some (some (.int r4), w4)) (h10 : 0 ≤ r4) (h11 : w4.1 0 5 = nI p) (h12 : ex 77 [.ref p, .int r3, .int 6] w4 = some (some (.int r5), w5)) (h13 : ex 95 [.ref 4, .int x2, .int r4, .int r5] w5 = some (none, w6)) (h14 : ex 40 [.int r4] w6 = some (some (.int r7), w7)) : runs (T_X8_swap ex) (0, [.ref 0, .int x1, .int x2, .null, .null], [], w) = some (some (.int r7), w7) := by
  rcases hp with rfl | rfl
  · exact (runs_stps (q' := (1, [.ref 0, .int x1, .int x2, .null, .null], [.ref 0], w)) 1 rfl).trans <|
    (runs_getD (pc := 4) (L := [.ref 0, .int x1, .int x2, .null, .null]) (st := []) (w := w) rfl h1 (by decide)).trans <|
    (runs_stps (q' := (5, [.ref 0, .int x1, .int x2, .null, .null], [.int x1, .ref 20], w)) 1 rfl).trans <|
    (runs_callV (rv := some (.int r1)) (w' := w1) rfl rfl rfl rfl h2).trans <|
    (runs_if_f (a := 22) (b := 11) (L := [.ref 0, .int x1, .int x2, .null, .null]) (st := []) (w := w1) rfl h3).trans <|
    (runs_stps (q' := (12, [.ref 0, .int x1, .int x2, .null, .null], [.ref 0], w1)) 1 rfl).trans <|
    (runs_getD (pc := 15) (L := [.ref 0, .int x1, .int x2, .null, .null]) (st := []) (w := w1) rfl h4 (by decide)).trans <|
    (runs_stps (q' := (16, [.ref 0, .int x1, .int x2, .null, .null], [.int x2, .ref 20], w1)) 1 rfl).trans <|
    (runs_callV (rv := some (.int r2)) (w' := w2) rfl rfl rfl rfl h5).trans <|
    (runs_if_f (a := 22) (b := 24) (L := [.ref 0, .int x1, .int x2, .null, .null]) (st := []) (w := w2) rfl h6).trans <|
    (runs_stps (q' := (29, [.ref 0, .int x1, .int x2, .null, .null], [.int x2, .ref 4], w2)) 3 rfl).trans <|
    (runs_callV (rv := some (.int r3)) (w' := w3) rfl rfl rfl rfl h7).trans <|
    (runs_stps (q' := (34, [.ref 0, .int x1, .int x2, .int r3, .null], [.ref 0], w3)) 2 rfl).trans <|
    (runs_getD (pc := 37) (L := [.ref 0, .int x1, .int x2, .int r3, .null]) (st := []) (w := w3) rfl h8 (by decide)).trans <|
    (runs_stps (q' := (43, [.ref 0, .int x1, .int x2, .int r3, .null], [.int 6, .int (1 <<< (x1 &&& 31)), .int r3, .ref 20], w3)) 5 rfl).trans <|
    (runs_callV (rv := some (.int r4)) (w' := w4) rfl rfl rfl rfl h9).trans <|
    (runs_stps (q' := (50, [.ref 0, .int x1, .int x2, .int r3, .int r4], [.int r4], w4)) 2 rfl).trans <|
    (runs_if_t (a := 56) (b := 53) (L := [.ref 0, .int x1, .int x2, .int r3, .int r4]) (st := []) (w := w4) rfl h10).trans <|
    (runs_stps (q' := (64, [.ref 0, .null, .int x2, .int r3, .int r4], [.ref 0, .int r4, .int x2, .ref 4], w4)) 5 rfl).trans <|
    (runs_getD (pc := 67) (L := [.ref 0, .null, .int x2, .int r3, .int r4]) (st := [.int r4, .int x2, .ref 4]) (w := w4) rfl h11 (by decide)).trans <|
    (runs_stps (q' := (70, [.ref 0, .null, .int x2, .int r3, .int r4], [.int 6, .int r3, .ref 20, .int r4, .int x2, .ref 4], w4)) 2 rfl).trans <|
    (runs_callV (rv := some (.int r5)) (w' := w5) rfl rfl rfl rfl h12).trans <|
    (runs_callV (rv := none) (w' := w6) rfl rfl rfl rfl h13).trans <|
    (runs_stps (q' := (78, [.ref 0, .null, .int x2, .int r3, .int r4], [.int r4], w6)) 1 rfl).trans <|
    (runs_callS (rv := some (.int r7)) (w' := w7) rfl rfl rfl h14).trans <|
    runs_ret rfl
  · exact (runs_stps (q' := (1, [.ref 0, .int x1, .int x2, .null, .null], [.ref 0], w)) 1 rfl).trans <|
    (runs_getD (pc := 4) (L := [.ref 0, .int x1, .int x2, .null, .null]) (st := []) (w := w) rfl h1 (by decide)).trans <|
    (runs_stps (q' := (5, [.ref 0, .int x1, .int x2, .null, .null], [.int x1, .ref 27], w)) 1 rfl).trans <|
    (runs_callV (rv := some (.int r1)) (w' := w1) rfl rfl rfl rfl h2).trans <|
    (runs_if_f (a := 22) (b := 11) (L := [.ref 0, .int x1, .int x2, .null, .null]) (st := []) (w := w1) rfl h3).trans <|
    (runs_stps (q' := (12, [.ref 0, .int x1, .int x2, .null, .null], [.ref 0], w1)) 1 rfl).trans <|
    (runs_getD (pc := 15) (L := [.ref 0, .int x1, .int x2, .null, .null]) (st := []) (w := w1) rfl h4 (by decide)).trans <|
    (runs_stps (q' := (16, [.ref 0, .int x1, .int x2, .null, .null], [.int x2, .ref 27], w1)) 1 rfl).trans <|
    (runs_callV (rv := some (.int r2)) (w' := w2) rfl rfl rfl rfl h5).trans <|
    (runs_if_f (a := 22) (b := 24) (L := [.ref 0, .int x1, .int x2, .null, .null]) (st := []) (w := w2) rfl h6).trans <|
    (runs_stps (q' := (29, [.ref 0, .int x1, .int x2, .null, .null], [.int x2, .ref 4], w2)) 3 rfl).trans <|
    (runs_callV (rv := some (.int r3)) (w' := w3) rfl rfl rfl rfl h7).trans <|
    (runs_stps (q' := (34, [.ref 0, .int x1, .int x2, .int r3, .null], [.ref 0], w3)) 2 rfl).trans <|
    (runs_getD (pc := 37) (L := [.ref 0, .int x1, .int x2, .int r3, .null]) (st := []) (w := w3) rfl h8 (by decide)).trans <|
    (runs_stps (q' := (43, [.ref 0, .int x1, .int x2, .int r3, .null], [.int 6, .int (1 <<< (x1 &&& 31)), .int r3, .ref 27], w3)) 5 rfl).trans <|
    (runs_callV (rv := some (.int r4)) (w' := w4) rfl rfl rfl rfl h9).trans <|
    (runs_stps (q' := (50, [.ref 0, .int x1, .int x2, .int r3, .int r4], [.int r4], w4)) 2 rfl).trans <|
    (runs_if_t (a := 56) (b := 53) (L := [.ref 0, .int x1, .int x2, .int r3, .int r4]) (st := []) (w := w4) rfl h10).trans <|
    (runs_stps (q' := (64, [.ref 0, .null, .int x2, .int r3, .int r4], [.ref 0, .int r4, .int x2, .ref 4], w4)) 5 rfl).trans <|
    (runs_getD (pc := 67) (L := [.ref 0, .null, .int x2, .int r3, .int r4]) (st := [.int r4, .int x2, .ref 4]) (w := w4) rfl h11 (by decide)).trans <|
    (runs_stps (q' := (70, [.ref 0, .null, .int x2, .int r3, .int r4], [.int 6, .int r3, .ref 27, .int r4, .int x2, .ref 4], w4)) 2 rfl).trans <|
    (runs_callV (rv := some (.int r5)) (w' := w5) rfl rfl rfl rfl h12).trans <|
    (runs_callV (rv := none) (w' := w6) rfl rfl rfl rfl h13).trans <|
    (runs_stps (q' := (78, [.ref 0, .null, .int x2, .int r3, .int r4], [.int r4], w6)) 1 rfl).trans <|
    (runs_callS (rv := some (.int r7)) (w' := w7) rfl rfl rfl h14).trans <|
    runs_ret rfl
theorem p_X8_swap_0FTF_R {ex : Ex} {p : Nat} {x1 : Int32} {x2 : Int32} {r1 : Int32} {w1 : Wd} {r2 : Int32} {w2 : Wd} {r3 : Int32} {w3 : Wd} {r4 : Int32} {w4 : Wd} {w : Wd} (hp : scp p) (h1 : w.1 0 5 = nI p) (h2 : ex 61 [.ref p, .int x1] w = some (some (.int r1), w1)) (h3 : ¬ r1 = 0) (h4 : w1.1 0 5 = nI p) (h5 : ex 60 [.ref p, .int x2] w1 = some (some (.int r2), w2)) (h6 : ¬ r2 = 0) (h7 : ex 92 [.ref 4, .int x2] w2 = some (some (.int r3), w3)) (h8 : w3.1 0 5 = nI p) (h9 : ex 76 [.ref p, .int r3, .int (1 <<< (x1 &&& 31)), .int 6] w3 = some (some (.int r4), w4)) (h10 : ¬ 0 ≤ r4) : runs (T_X8_swap ex) (0, [.ref 0, .int x1, .int x2, .null, .null], [], w) = some (some (.int (-2)), w4) := by
  rcases hp with rfl | rfl
  · exact (runs_stps (q' := (1, [.ref 0, .int x1, .int x2, .null, .null], [.ref 0], w)) 1 rfl).trans <|
    (runs_getD (pc := 4) (L := [.ref 0, .int x1, .int x2, .null, .null]) (st := []) (w := w) rfl h1 (by decide)).trans <|
    (runs_stps (q' := (5, [.ref 0, .int x1, .int x2, .null, .null], [.int x1, .ref 20], w)) 1 rfl).trans <|
    (runs_callV (rv := some (.int r1)) (w' := w1) rfl rfl rfl rfl h2).trans <|
    (runs_if_f (a := 22) (b := 11) (L := [.ref 0, .int x1, .int x2, .null, .null]) (st := []) (w := w1) rfl h3).trans <|
    (runs_stps (q' := (12, [.ref 0, .int x1, .int x2, .null, .null], [.ref 0], w1)) 1 rfl).trans <|
    (runs_getD (pc := 15) (L := [.ref 0, .int x1, .int x2, .null, .null]) (st := []) (w := w1) rfl h4 (by decide)).trans <|
    (runs_stps (q' := (16, [.ref 0, .int x1, .int x2, .null, .null], [.int x2, .ref 20], w1)) 1 rfl).trans <|
    (runs_callV (rv := some (.int r2)) (w' := w2) rfl rfl rfl rfl h5).trans <|
    (runs_if_f (a := 22) (b := 24) (L := [.ref 0, .int x1, .int x2, .null, .null]) (st := []) (w := w2) rfl h6).trans <|
    (runs_stps (q' := (29, [.ref 0, .int x1, .int x2, .null, .null], [.int x2, .ref 4], w2)) 3 rfl).trans <|
    (runs_callV (rv := some (.int r3)) (w' := w3) rfl rfl rfl rfl h7).trans <|
    (runs_stps (q' := (34, [.ref 0, .int x1, .int x2, .int r3, .null], [.ref 0], w3)) 2 rfl).trans <|
    (runs_getD (pc := 37) (L := [.ref 0, .int x1, .int x2, .int r3, .null]) (st := []) (w := w3) rfl h8 (by decide)).trans <|
    (runs_stps (q' := (43, [.ref 0, .int x1, .int x2, .int r3, .null], [.int 6, .int (1 <<< (x1 &&& 31)), .int r3, .ref 20], w3)) 5 rfl).trans <|
    (runs_callV (rv := some (.int r4)) (w' := w4) rfl rfl rfl rfl h9).trans <|
    (runs_stps (q' := (50, [.ref 0, .int x1, .int x2, .int r3, .int r4], [.int r4], w4)) 2 rfl).trans <|
    (runs_if_f (a := 56) (b := 53) (L := [.ref 0, .int x1, .int x2, .int r3, .int r4]) (st := []) (w := w4) rfl h10).trans <|
    (runs_stps (q' := (55, [.ref 0, .int x1, .int x2, .int r3, .int r4], [.int (-2)], w4)) 1 rfl).trans <|
    runs_ret rfl
  · exact (runs_stps (q' := (1, [.ref 0, .int x1, .int x2, .null, .null], [.ref 0], w)) 1 rfl).trans <|
    (runs_getD (pc := 4) (L := [.ref 0, .int x1, .int x2, .null, .null]) (st := []) (w := w) rfl h1 (by decide)).trans <|
    (runs_stps (q' := (5, [.ref 0, .int x1, .int x2, .null, .null], [.int x1, .ref 27], w)) 1 rfl).trans <|
    (runs_callV (rv := some (.int r1)) (w' := w1) rfl rfl rfl rfl h2).trans <|
    (runs_if_f (a := 22) (b := 11) (L := [.ref 0, .int x1, .int x2, .null, .null]) (st := []) (w := w1) rfl h3).trans <|
    (runs_stps (q' := (12, [.ref 0, .int x1, .int x2, .null, .null], [.ref 0], w1)) 1 rfl).trans <|
    (runs_getD (pc := 15) (L := [.ref 0, .int x1, .int x2, .null, .null]) (st := []) (w := w1) rfl h4 (by decide)).trans <|
    (runs_stps (q' := (16, [.ref 0, .int x1, .int x2, .null, .null], [.int x2, .ref 27], w1)) 1 rfl).trans <|
    (runs_callV (rv := some (.int r2)) (w' := w2) rfl rfl rfl rfl h5).trans <|
    (runs_if_f (a := 22) (b := 24) (L := [.ref 0, .int x1, .int x2, .null, .null]) (st := []) (w := w2) rfl h6).trans <|
    (runs_stps (q' := (29, [.ref 0, .int x1, .int x2, .null, .null], [.int x2, .ref 4], w2)) 3 rfl).trans <|
    (runs_callV (rv := some (.int r3)) (w' := w3) rfl rfl rfl rfl h7).trans <|
    (runs_stps (q' := (34, [.ref 0, .int x1, .int x2, .int r3, .null], [.ref 0], w3)) 2 rfl).trans <|
    (runs_getD (pc := 37) (L := [.ref 0, .int x1, .int x2, .int r3, .null]) (st := []) (w := w3) rfl h8 (by decide)).trans <|
    (runs_stps (q' := (43, [.ref 0, .int x1, .int x2, .int r3, .null], [.int 6, .int (1 <<< (x1 &&& 31)), .int r3, .ref 27], w3)) 5 rfl).trans <|
    (runs_callV (rv := some (.int r4)) (w' := w4) rfl rfl rfl rfl h9).trans <|
    (runs_stps (q' := (50, [.ref 0, .int x1, .int x2, .int r3, .int r4], [.int r4], w4)) 2 rfl).trans <|
    (runs_if_f (a := 56) (b := 53) (L := [.ref 0, .int x1, .int x2, .int r3, .int r4]) (st := []) (w := w4) rfl h10).trans <|
    (runs_stps (q' := (55, [.ref 0, .int x1, .int x2, .int r3, .int r4], [.int (-2)], w4)) 1 rfl).trans <|
    runs_ret rfl
theorem p_X8_swap_0FF_R {ex : Ex} {p : Nat} {x1 : Int32} {x2 : Int32} {r1 : Int32} {w1 : Wd} {r2 : Int32} {w2 : Wd} {w : Wd} (hp : scp p) (h1 : w.1 0 5 = nI p) (h2 : ex 61 [.ref p, .int x1] w = some (some (.int r1), w1)) (h3 : ¬ r1 = 0) (h4 : w1.1 0 5 = nI p) (h5 : ex 60 [.ref p, .int x2] w1 = some (some (.int r2), w2)) (h6 : r2 = 0) : runs (T_X8_swap ex) (0, [.ref 0, .int x1, .int x2, .null, .null], [], w) = some (some (.int (-1)), w2) := by
  rcases hp with rfl | rfl
  · exact (runs_stps (q' := (1, [.ref 0, .int x1, .int x2, .null, .null], [.ref 0], w)) 1 rfl).trans <|
    (runs_getD (pc := 4) (L := [.ref 0, .int x1, .int x2, .null, .null]) (st := []) (w := w) rfl h1 (by decide)).trans <|
    (runs_stps (q' := (5, [.ref 0, .int x1, .int x2, .null, .null], [.int x1, .ref 20], w)) 1 rfl).trans <|
    (runs_callV (rv := some (.int r1)) (w' := w1) rfl rfl rfl rfl h2).trans <|
    (runs_if_f (a := 22) (b := 11) (L := [.ref 0, .int x1, .int x2, .null, .null]) (st := []) (w := w1) rfl h3).trans <|
    (runs_stps (q' := (12, [.ref 0, .int x1, .int x2, .null, .null], [.ref 0], w1)) 1 rfl).trans <|
    (runs_getD (pc := 15) (L := [.ref 0, .int x1, .int x2, .null, .null]) (st := []) (w := w1) rfl h4 (by decide)).trans <|
    (runs_stps (q' := (16, [.ref 0, .int x1, .int x2, .null, .null], [.int x2, .ref 20], w1)) 1 rfl).trans <|
    (runs_callV (rv := some (.int r2)) (w' := w2) rfl rfl rfl rfl h5).trans <|
    (runs_if_t (a := 22) (b := 24) (L := [.ref 0, .int x1, .int x2, .null, .null]) (st := []) (w := w2) rfl h6).trans <|
    (runs_stps (q' := (23, [.null, .null, .null, .null, .null], [.int (-1)], w2)) 1 rfl).trans <|
    runs_ret rfl
  · exact (runs_stps (q' := (1, [.ref 0, .int x1, .int x2, .null, .null], [.ref 0], w)) 1 rfl).trans <|
    (runs_getD (pc := 4) (L := [.ref 0, .int x1, .int x2, .null, .null]) (st := []) (w := w) rfl h1 (by decide)).trans <|
    (runs_stps (q' := (5, [.ref 0, .int x1, .int x2, .null, .null], [.int x1, .ref 27], w)) 1 rfl).trans <|
    (runs_callV (rv := some (.int r1)) (w' := w1) rfl rfl rfl rfl h2).trans <|
    (runs_if_f (a := 22) (b := 11) (L := [.ref 0, .int x1, .int x2, .null, .null]) (st := []) (w := w1) rfl h3).trans <|
    (runs_stps (q' := (12, [.ref 0, .int x1, .int x2, .null, .null], [.ref 0], w1)) 1 rfl).trans <|
    (runs_getD (pc := 15) (L := [.ref 0, .int x1, .int x2, .null, .null]) (st := []) (w := w1) rfl h4 (by decide)).trans <|
    (runs_stps (q' := (16, [.ref 0, .int x1, .int x2, .null, .null], [.int x2, .ref 27], w1)) 1 rfl).trans <|
    (runs_callV (rv := some (.int r2)) (w' := w2) rfl rfl rfl rfl h5).trans <|
    (runs_if_t (a := 22) (b := 24) (L := [.ref 0, .int x1, .int x2, .null, .null]) (st := []) (w := w2) rfl h6).trans <|
    (runs_stps (q' := (23, [.null, .null, .null, .null, .null], [.int (-1)], w2)) 1 rfl).trans <|
    runs_ret rfl
theorem p_X8_copy_0T_R {ex : Ex} {p : Nat} {x1 : Int32} {x2 : Int32} {x3 : Int32} {r1 : Int32} {w1 : Wd} {w : Wd} (hp : scp p) (h1 : w.1 0 5 = nI p) (h2 : ex 61 [.ref p, .int x1] w = some (some (.int r1), w1)) (h3 : r1 = 0) : runs (T_X8_copy ex) (0, [.ref 0, .int x1, .int x2, .int x3, .null, .null], [], w) = some (some (.int (-1)), w1) := by
  rcases hp with rfl | rfl
  · exact (runs_stps (q' := (1, [.ref 0, .int x1, .int x2, .int x3, .null, .null], [.ref 0], w)) 1 rfl).trans <|
    (runs_getD (pc := 4) (L := [.ref 0, .int x1, .int x2, .int x3, .null, .null]) (st := []) (w := w) rfl h1 (by decide)).trans <|
    (runs_stps (q' := (5, [.ref 0, .int x1, .int x2, .int x3, .null, .null], [.int x1, .ref 20], w)) 1 rfl).trans <|
    (runs_callV (rv := some (.int r1)) (w' := w1) rfl rfl rfl rfl h2).trans <|
    (runs_if_t (a := 38) (b := 11) (L := [.ref 0, .int x1, .int x2, .int x3, .null, .null]) (st := []) (w := w1) rfl h3).trans <|
    (runs_stps (q' := (39, [.null, .null, .null, .null, .null, .null], [.int (-1)], w1)) 1 rfl).trans <|
    runs_ret rfl
  · exact (runs_stps (q' := (1, [.ref 0, .int x1, .int x2, .int x3, .null, .null], [.ref 0], w)) 1 rfl).trans <|
    (runs_getD (pc := 4) (L := [.ref 0, .int x1, .int x2, .int x3, .null, .null]) (st := []) (w := w) rfl h1 (by decide)).trans <|
    (runs_stps (q' := (5, [.ref 0, .int x1, .int x2, .int x3, .null, .null], [.int x1, .ref 27], w)) 1 rfl).trans <|
    (runs_callV (rv := some (.int r1)) (w' := w1) rfl rfl rfl rfl h2).trans <|
    (runs_if_t (a := 38) (b := 11) (L := [.ref 0, .int x1, .int x2, .int x3, .null, .null]) (st := []) (w := w1) rfl h3).trans <|
    (runs_stps (q' := (39, [.null, .null, .null, .null, .null, .null], [.int (-1)], w1)) 1 rfl).trans <|
    runs_ret rfl
theorem p_X8_copy_0FT_R {ex : Ex} {p : Nat} {x1 : Int32} {x2 : Int32} {x3 : Int32} {r1 : Int32} {w1 : Wd} {r2 : Int32} {w2 : Wd} {w : Wd} (hp : scp p) (h1 : w.1 0 5 = nI p) (h2 : ex 61 [.ref p, .int x1] w = some (some (.int r1), w1)) (h3 : ¬ r1 = 0) (h4 : w1.1 0 5 = nI p) (h5 : ex 60 [.ref p, .int x2] w1 = some (some (.int r2), w2)) (h6 : r2 = 0) : runs (T_X8_copy ex) (0, [.ref 0, .int x1, .int x2, .int x3, .null, .null], [], w) = some (some (.int (-1)), w2) := by
  rcases hp with rfl | rfl
  · exact (runs_stps (q' := (1, [.ref 0, .int x1, .int x2, .int x3, .null, .null], [.ref 0], w)) 1 rfl).trans <|
    (runs_getD (pc := 4) (L := [.ref 0, .int x1, .int x2, .int x3, .null, .null]) (st := []) (w := w) rfl h1 (by decide)).trans <|
    (runs_stps (q' := (5, [.ref 0, .int x1, .int x2, .int x3, .null, .null], [.int x1, .ref 20], w)) 1 rfl).trans <|
    (runs_callV (rv := some (.int r1)) (w' := w1) rfl rfl rfl rfl h2).trans <|
    (runs_if_f (a := 38) (b := 11) (L := [.ref 0, .int x1, .int x2, .int x3, .null, .null]) (st := []) (w := w1) rfl h3).trans <|
    (runs_stps (q' := (12, [.ref 0, .int x1, .int x2, .int x3, .null, .null], [.ref 0], w1)) 1 rfl).trans <|
    (runs_getD (pc := 15) (L := [.ref 0, .int x1, .int x2, .int x3, .null, .null]) (st := []) (w := w1) rfl h4 (by decide)).trans <|
    (runs_stps (q' := (16, [.ref 0, .int x1, .int x2, .int x3, .null, .null], [.int x2, .ref 20], w1)) 1 rfl).trans <|
    (runs_callV (rv := some (.int r2)) (w' := w2) rfl rfl rfl rfl h5).trans <|
    (runs_if_t (a := 38) (b := 22) (L := [.ref 0, .int x1, .int x2, .int x3, .null, .null]) (st := []) (w := w2) rfl h6).trans <|
    (runs_stps (q' := (39, [.null, .null, .null, .null, .null, .null], [.int (-1)], w2)) 1 rfl).trans <|
    runs_ret rfl
  · exact (runs_stps (q' := (1, [.ref 0, .int x1, .int x2, .int x3, .null, .null], [.ref 0], w)) 1 rfl).trans <|
    (runs_getD (pc := 4) (L := [.ref 0, .int x1, .int x2, .int x3, .null, .null]) (st := []) (w := w) rfl h1 (by decide)).trans <|
    (runs_stps (q' := (5, [.ref 0, .int x1, .int x2, .int x3, .null, .null], [.int x1, .ref 27], w)) 1 rfl).trans <|
    (runs_callV (rv := some (.int r1)) (w' := w1) rfl rfl rfl rfl h2).trans <|
    (runs_if_f (a := 38) (b := 11) (L := [.ref 0, .int x1, .int x2, .int x3, .null, .null]) (st := []) (w := w1) rfl h3).trans <|
    (runs_stps (q' := (12, [.ref 0, .int x1, .int x2, .int x3, .null, .null], [.ref 0], w1)) 1 rfl).trans <|
    (runs_getD (pc := 15) (L := [.ref 0, .int x1, .int x2, .int x3, .null, .null]) (st := []) (w := w1) rfl h4 (by decide)).trans <|
    (runs_stps (q' := (16, [.ref 0, .int x1, .int x2, .int x3, .null, .null], [.int x2, .ref 27], w1)) 1 rfl).trans <|
    (runs_callV (rv := some (.int r2)) (w' := w2) rfl rfl rfl rfl h5).trans <|
    (runs_if_t (a := 38) (b := 22) (L := [.ref 0, .int x1, .int x2, .int x3, .null, .null]) (st := []) (w := w2) rfl h6).trans <|
    (runs_stps (q' := (39, [.null, .null, .null, .null, .null, .null], [.int (-1)], w2)) 1 rfl).trans <|
    runs_ret rfl
theorem p_X8_copy_0FFT_R {ex : Ex} {p : Nat} {x1 : Int32} {x2 : Int32} {x3 : Int32} {r1 : Int32} {w1 : Wd} {r2 : Int32} {w2 : Wd} {r3 : Int32} {w3 : Wd} {w : Wd} (hp : scp p) (h1 : w.1 0 5 = nI p) (h2 : ex 61 [.ref p, .int x1] w = some (some (.int r1), w1)) (h3 : ¬ r1 = 0) (h4 : w1.1 0 5 = nI p) (h5 : ex 60 [.ref p, .int x2] w1 = some (some (.int r2), w2)) (h6 : ¬ r2 = 0) (h7 : w2.1 0 5 = nI p) (h8 : ex 60 [.ref p, .int x3] w2 = some (some (.int r3), w3)) (h9 : r3 = 0) : runs (T_X8_copy ex) (0, [.ref 0, .int x1, .int x2, .int x3, .null, .null], [], w) = some (some (.int (-1)), w3) := by
  rcases hp with rfl | rfl
  · exact (runs_stps (q' := (1, [.ref 0, .int x1, .int x2, .int x3, .null, .null], [.ref 0], w)) 1 rfl).trans <|
    (runs_getD (pc := 4) (L := [.ref 0, .int x1, .int x2, .int x3, .null, .null]) (st := []) (w := w) rfl h1 (by decide)).trans <|
    (runs_stps (q' := (5, [.ref 0, .int x1, .int x2, .int x3, .null, .null], [.int x1, .ref 20], w)) 1 rfl).trans <|
    (runs_callV (rv := some (.int r1)) (w' := w1) rfl rfl rfl rfl h2).trans <|
    (runs_if_f (a := 38) (b := 11) (L := [.ref 0, .int x1, .int x2, .int x3, .null, .null]) (st := []) (w := w1) rfl h3).trans <|
    (runs_stps (q' := (12, [.ref 0, .int x1, .int x2, .int x3, .null, .null], [.ref 0], w1)) 1 rfl).trans <|
    (runs_getD (pc := 15) (L := [.ref 0, .int x1, .int x2, .int x3, .null, .null]) (st := []) (w := w1) rfl h4 (by decide)).trans <|
    (runs_stps (q' := (16, [.ref 0, .int x1, .int x2, .int x3, .null, .null], [.int x2, .ref 20], w1)) 1 rfl).trans <|
    (runs_callV (rv := some (.int r2)) (w' := w2) rfl rfl rfl rfl h5).trans <|
    (runs_if_f (a := 38) (b := 22) (L := [.ref 0, .int x1, .int x2, .int x3, .null, .null]) (st := []) (w := w2) rfl h6).trans <|
    (runs_stps (q' := (23, [.ref 0, .int x1, .int x2, .int x3, .null, .null], [.ref 0], w2)) 1 rfl).trans <|
    (runs_getD (pc := 26) (L := [.ref 0, .int x1, .int x2, .int x3, .null, .null]) (st := []) (w := w2) rfl h7 (by decide)).trans <|
    (runs_stps (q' := (27, [.ref 0, .int x1, .int x2, .int x3, .null, .null], [.int x3, .ref 20], w2)) 1 rfl).trans <|
    (runs_callV (rv := some (.int r3)) (w' := w3) rfl rfl rfl rfl h8).trans <|
    (runs_if_t (a := 38) (b := 33) (L := [.ref 0, .int x1, .int x2, .int x3, .null, .null]) (st := []) (w := w3) rfl h9).trans <|
    (runs_stps (q' := (39, [.null, .null, .null, .null, .null, .null], [.int (-1)], w3)) 1 rfl).trans <|
    runs_ret rfl
  · exact (runs_stps (q' := (1, [.ref 0, .int x1, .int x2, .int x3, .null, .null], [.ref 0], w)) 1 rfl).trans <|
    (runs_getD (pc := 4) (L := [.ref 0, .int x1, .int x2, .int x3, .null, .null]) (st := []) (w := w) rfl h1 (by decide)).trans <|
    (runs_stps (q' := (5, [.ref 0, .int x1, .int x2, .int x3, .null, .null], [.int x1, .ref 27], w)) 1 rfl).trans <|
    (runs_callV (rv := some (.int r1)) (w' := w1) rfl rfl rfl rfl h2).trans <|
    (runs_if_f (a := 38) (b := 11) (L := [.ref 0, .int x1, .int x2, .int x3, .null, .null]) (st := []) (w := w1) rfl h3).trans <|
    (runs_stps (q' := (12, [.ref 0, .int x1, .int x2, .int x3, .null, .null], [.ref 0], w1)) 1 rfl).trans <|
    (runs_getD (pc := 15) (L := [.ref 0, .int x1, .int x2, .int x3, .null, .null]) (st := []) (w := w1) rfl h4 (by decide)).trans <|
    (runs_stps (q' := (16, [.ref 0, .int x1, .int x2, .int x3, .null, .null], [.int x2, .ref 27], w1)) 1 rfl).trans <|
    (runs_callV (rv := some (.int r2)) (w' := w2) rfl rfl rfl rfl h5).trans <|
    (runs_if_f (a := 38) (b := 22) (L := [.ref 0, .int x1, .int x2, .int x3, .null, .null]) (st := []) (w := w2) rfl h6).trans <|
    (runs_stps (q' := (23, [.ref 0, .int x1, .int x2, .int x3, .null, .null], [.ref 0], w2)) 1 rfl).trans <|
    (runs_getD (pc := 26) (L := [.ref 0, .int x1, .int x2, .int x3, .null, .null]) (st := []) (w := w2) rfl h7 (by decide)).trans <|
    (runs_stps (q' := (27, [.ref 0, .int x1, .int x2, .int x3, .null, .null], [.int x3, .ref 27], w2)) 1 rfl).trans <|
    (runs_callV (rv := some (.int r3)) (w' := w3) rfl rfl rfl rfl h8).trans <|
    (runs_if_t (a := 38) (b := 33) (L := [.ref 0, .int x1, .int x2, .int x3, .null, .null]) (st := []) (w := w3) rfl h9).trans <|
    (runs_stps (q' := (39, [.null, .null, .null, .null, .null, .null], [.int (-1)], w3)) 1 rfl).trans <|
    runs_ret rfl
theorem p_X8_copy_0FFFTT_R {ex : Ex} {p : Nat} {x1 : Int32} {x2 : Int32} {x3 : Int32} {r1 : Int32} {w1 : Wd} {r2 : Int32} {w2 : Wd} {r3 : Int32} {w3 : Wd} {r4 : Int32} {w4 : Wd} {r5 : Int32} {w5 : Wd} {w : Wd} (hp : scp p) (h1 : w.1 0 5 = nI p) (h2 : ex 61 [.ref p, .int x1] w = some (some (.int r1), w1)) (h3 : ¬ r1 = 0) (h4 : w1.1 0 5 = nI p) (h5 : ex 60 [.ref p, .int x2] w1 = some (some (.int r2), w2)) (h6 : ¬ r2 = 0) (h7 : w2.1 0 5 = nI p) (h8 : ex 60 [.ref p, .int x3] w2 = some (some (.int r3), w3)) (h9 : ¬ r3 = 0) (h10 : ¬ x2 = x3) (h11 : ex 92 [.ref 4, .int x2] w3 = some (some (.int r4), w4)) (h12 : ex 40 [.int r4] w4 = some (some (.int r5), w5)) (h13 : r5 < 0) : runs (T_X8_copy ex) (0, [.ref 0, .int x1, .int x2, .int x3, .null, .null], [], w) = some (some (.int (-2)), w5) := by
  rcases hp with rfl | rfl
  · exact (runs_stps (q' := (1, [.ref 0, .int x1, .int x2, .int x3, .null, .null], [.ref 0], w)) 1 rfl).trans <|
    (runs_getD (pc := 4) (L := [.ref 0, .int x1, .int x2, .int x3, .null, .null]) (st := []) (w := w) rfl h1 (by decide)).trans <|
    (runs_stps (q' := (5, [.ref 0, .int x1, .int x2, .int x3, .null, .null], [.int x1, .ref 20], w)) 1 rfl).trans <|
    (runs_callV (rv := some (.int r1)) (w' := w1) rfl rfl rfl rfl h2).trans <|
    (runs_if_f (a := 38) (b := 11) (L := [.ref 0, .int x1, .int x2, .int x3, .null, .null]) (st := []) (w := w1) rfl h3).trans <|
    (runs_stps (q' := (12, [.ref 0, .int x1, .int x2, .int x3, .null, .null], [.ref 0], w1)) 1 rfl).trans <|
    (runs_getD (pc := 15) (L := [.ref 0, .int x1, .int x2, .int x3, .null, .null]) (st := []) (w := w1) rfl h4 (by decide)).trans <|
    (runs_stps (q' := (16, [.ref 0, .int x1, .int x2, .int x3, .null, .null], [.int x2, .ref 20], w1)) 1 rfl).trans <|
    (runs_callV (rv := some (.int r2)) (w' := w2) rfl rfl rfl rfl h5).trans <|
    (runs_if_f (a := 38) (b := 22) (L := [.ref 0, .int x1, .int x2, .int x3, .null, .null]) (st := []) (w := w2) rfl h6).trans <|
    (runs_stps (q' := (23, [.ref 0, .int x1, .int x2, .int x3, .null, .null], [.ref 0], w2)) 1 rfl).trans <|
    (runs_getD (pc := 26) (L := [.ref 0, .int x1, .int x2, .int x3, .null, .null]) (st := []) (w := w2) rfl h7 (by decide)).trans <|
    (runs_stps (q' := (27, [.ref 0, .int x1, .int x2, .int x3, .null, .null], [.int x3, .ref 20], w2)) 1 rfl).trans <|
    (runs_callV (rv := some (.int r3)) (w' := w3) rfl rfl rfl rfl h8).trans <|
    (runs_if_f (a := 38) (b := 33) (L := [.ref 0, .int x1, .int x2, .int x3, .null, .null]) (st := []) (w := w3) rfl h9).trans <|
    (runs_stps (q' := (35, [.ref 0, .int x1, .int x2, .int x3, .null, .null], [.int x3, .int x2], w3)) 2 rfl).trans <|
    (runs_if_f (a := 38) (b := 40) (L := [.ref 0, .int x1, .int x2, .int x3, .null, .null]) (st := []) (w := w3) rfl h10).trans <|
    (runs_stps (q' := (45, [.ref 0, .int x1, .int x2, .int x3, .null, .null], [.int x2, .ref 4], w3)) 3 rfl).trans <|
    (runs_callV (rv := some (.int r4)) (w' := w4) rfl rfl rfl rfl h11).trans <|
    (runs_callS (rv := some (.int r5)) (w' := w5) rfl rfl rfl h12).trans <|
    (runs_stps (q' := (55, [.ref 0, .int x1, .int x2, .int x3, .int r5, .null], [.int r5], w5)) 2 rfl).trans <|
    (runs_if_t (a := 73) (b := 58) (L := [.ref 0, .int x1, .int x2, .int x3, .int r5, .null]) (st := []) (w := w5) rfl h13).trans <|
    (runs_stps (q' := (75, [.null, .null, .null, .null, .null, .null], [.int (-2)], w5)) 1 rfl).trans <|
    runs_ret rfl
  · exact (runs_stps (q' := (1, [.ref 0, .int x1, .int x2, .int x3, .null, .null], [.ref 0], w)) 1 rfl).trans <|
    (runs_getD (pc := 4) (L := [.ref 0, .int x1, .int x2, .int x3, .null, .null]) (st := []) (w := w) rfl h1 (by decide)).trans <|
    (runs_stps (q' := (5, [.ref 0, .int x1, .int x2, .int x3, .null, .null], [.int x1, .ref 27], w)) 1 rfl).trans <|
    (runs_callV (rv := some (.int r1)) (w' := w1) rfl rfl rfl rfl h2).trans <|
    (runs_if_f (a := 38) (b := 11) (L := [.ref 0, .int x1, .int x2, .int x3, .null, .null]) (st := []) (w := w1) rfl h3).trans <|
    (runs_stps (q' := (12, [.ref 0, .int x1, .int x2, .int x3, .null, .null], [.ref 0], w1)) 1 rfl).trans <|
    (runs_getD (pc := 15) (L := [.ref 0, .int x1, .int x2, .int x3, .null, .null]) (st := []) (w := w1) rfl h4 (by decide)).trans <|
    (runs_stps (q' := (16, [.ref 0, .int x1, .int x2, .int x3, .null, .null], [.int x2, .ref 27], w1)) 1 rfl).trans <|
    (runs_callV (rv := some (.int r2)) (w' := w2) rfl rfl rfl rfl h5).trans <|
    (runs_if_f (a := 38) (b := 22) (L := [.ref 0, .int x1, .int x2, .int x3, .null, .null]) (st := []) (w := w2) rfl h6).trans <|
    (runs_stps (q' := (23, [.ref 0, .int x1, .int x2, .int x3, .null, .null], [.ref 0], w2)) 1 rfl).trans <|
    (runs_getD (pc := 26) (L := [.ref 0, .int x1, .int x2, .int x3, .null, .null]) (st := []) (w := w2) rfl h7 (by decide)).trans <|
    (runs_stps (q' := (27, [.ref 0, .int x1, .int x2, .int x3, .null, .null], [.int x3, .ref 27], w2)) 1 rfl).trans <|
    (runs_callV (rv := some (.int r3)) (w' := w3) rfl rfl rfl rfl h8).trans <|
    (runs_if_f (a := 38) (b := 33) (L := [.ref 0, .int x1, .int x2, .int x3, .null, .null]) (st := []) (w := w3) rfl h9).trans <|
    (runs_stps (q' := (35, [.ref 0, .int x1, .int x2, .int x3, .null, .null], [.int x3, .int x2], w3)) 2 rfl).trans <|
    (runs_if_f (a := 38) (b := 40) (L := [.ref 0, .int x1, .int x2, .int x3, .null, .null]) (st := []) (w := w3) rfl h10).trans <|
    (runs_stps (q' := (45, [.ref 0, .int x1, .int x2, .int x3, .null, .null], [.int x2, .ref 4], w3)) 3 rfl).trans <|
    (runs_callV (rv := some (.int r4)) (w' := w4) rfl rfl rfl rfl h11).trans <|
    (runs_callS (rv := some (.int r5)) (w' := w5) rfl rfl rfl h12).trans <|
    (runs_stps (q' := (55, [.ref 0, .int x1, .int x2, .int x3, .int r5, .null], [.int r5], w5)) 2 rfl).trans <|
    (runs_if_t (a := 73) (b := 58) (L := [.ref 0, .int x1, .int x2, .int x3, .int r5, .null]) (st := []) (w := w5) rfl h13).trans <|
    (runs_stps (q' := (75, [.null, .null, .null, .null, .null, .null], [.int (-2)], w5)) 1 rfl).trans <|
    runs_ret rfl
theorem p_X8_copy_0FFFTFTT_R {ex : Ex} {p : Nat} {x1 : Int32} {x2 : Int32} {x3 : Int32} {r1 : Int32} {w1 : Wd} {r2 : Int32} {w2 : Wd} {r3 : Int32} {w3 : Wd} {r4 : Int32} {w4 : Wd} {r5 : Int32} {w5 : Wd} {r6 : Int32} {w6 : Wd} {r7 : Int32} {w7 : Wd} {r8 : Int32} {w8 : Wd} {r9 : Int32} {w9 : Wd} {r10 : Int32} {w10 : Wd} {w11 : Wd} {w : Wd} (hp : scp p) (h1 : w.1 0 5 = nI p) (h2 : ex 61 [.ref p, .int x1] w = some (some (.int r1), w1)) (h3 : ¬ r1 = 0) (h4 : w1.1 0 5 = nI p) (h5 : ex 60 [.ref p, .int x2] w1 = some (some (.int r2), w2)) (h6 : ¬ r2 = 0) (h7 : w2.1 0 5 = nI p) (h8 : ex 60 [.ref p, .int x3] w2 = some (some (.int r3), w3)) (h9 : ¬ r3 = 0) (h10 : ¬ x2 = x3) (h11 : ex 92 [.ref 4, .int x2] w3 = some (some (.int r4), w4)) (h12 : ex 40 [.int r4] w4 = some (some (.int r5), w5)) (h13 : ¬ r5 < 0) (h14 : w5.1 0 5 = nI p) (h15 : ex 71 [.ref p, .int (1 <<< (x1 &&& 31)), .int r5] w5 = some (some (.int r6), w6)) (h16 : ¬ r6 = 0) (h17 : ex 92 [.ref 4, .int x3] w6 = some (some (.int r7), w7)) (h18 : ex 38 [.int r7] w7 = some (some (.int r8), w8)) (h19 : r8 = 0) (h20 : ex 39 [.int r7, .int r5] w8 = some (some (.int r9), w9)) (h21 : w9.1 0 5 = nI p) (h22 : ex 57 [.ref p] w9 = some (some (.int r10), w10)) (h23 : ex 95 [.ref 4, .int x3, .int r9, .int r10] w10 = some (none, w11)) : runs (T_X8_copy ex) (0, [.ref 0, .int x1, .int x2, .int x3, .null, .null], [], w) = some (some (.int r5), w11) := by
  rcases hp with rfl | rfl
  · exact (runs_stps (q' := (1, [.ref 0, .int x1, .int x2, .int x3, .null, .null], [.ref 0], w)) 1 rfl).trans <|
    (runs_getD (pc := 4) (L := [.ref 0, .int x1, .int x2, .int x3, .null, .null]) (st := []) (w := w) rfl h1 (by decide)).trans <|
    (runs_stps (q' := (5, [.ref 0, .int x1, .int x2, .int x3, .null, .null], [.int x1, .ref 20], w)) 1 rfl).trans <|
    (runs_callV (rv := some (.int r1)) (w' := w1) rfl rfl rfl rfl h2).trans <|
    (runs_if_f (a := 38) (b := 11) (L := [.ref 0, .int x1, .int x2, .int x3, .null, .null]) (st := []) (w := w1) rfl h3).trans <|
    (runs_stps (q' := (12, [.ref 0, .int x1, .int x2, .int x3, .null, .null], [.ref 0], w1)) 1 rfl).trans <|
    (runs_getD (pc := 15) (L := [.ref 0, .int x1, .int x2, .int x3, .null, .null]) (st := []) (w := w1) rfl h4 (by decide)).trans <|
    (runs_stps (q' := (16, [.ref 0, .int x1, .int x2, .int x3, .null, .null], [.int x2, .ref 20], w1)) 1 rfl).trans <|
    (runs_callV (rv := some (.int r2)) (w' := w2) rfl rfl rfl rfl h5).trans <|
    (runs_if_f (a := 38) (b := 22) (L := [.ref 0, .int x1, .int x2, .int x3, .null, .null]) (st := []) (w := w2) rfl h6).trans <|
    (runs_stps (q' := (23, [.ref 0, .int x1, .int x2, .int x3, .null, .null], [.ref 0], w2)) 1 rfl).trans <|
    (runs_getD (pc := 26) (L := [.ref 0, .int x1, .int x2, .int x3, .null, .null]) (st := []) (w := w2) rfl h7 (by decide)).trans <|
    (runs_stps (q' := (27, [.ref 0, .int x1, .int x2, .int x3, .null, .null], [.int x3, .ref 20], w2)) 1 rfl).trans <|
    (runs_callV (rv := some (.int r3)) (w' := w3) rfl rfl rfl rfl h8).trans <|
    (runs_if_f (a := 38) (b := 33) (L := [.ref 0, .int x1, .int x2, .int x3, .null, .null]) (st := []) (w := w3) rfl h9).trans <|
    (runs_stps (q' := (35, [.ref 0, .int x1, .int x2, .int x3, .null, .null], [.int x3, .int x2], w3)) 2 rfl).trans <|
    (runs_if_f (a := 38) (b := 40) (L := [.ref 0, .int x1, .int x2, .int x3, .null, .null]) (st := []) (w := w3) rfl h10).trans <|
    (runs_stps (q' := (45, [.ref 0, .int x1, .int x2, .int x3, .null, .null], [.int x2, .ref 4], w3)) 3 rfl).trans <|
    (runs_callV (rv := some (.int r4)) (w' := w4) rfl rfl rfl rfl h11).trans <|
    (runs_callS (rv := some (.int r5)) (w' := w5) rfl rfl rfl h12).trans <|
    (runs_stps (q' := (55, [.ref 0, .int x1, .int x2, .int x3, .int r5, .null], [.int r5], w5)) 2 rfl).trans <|
    (runs_if_f (a := 73) (b := 58) (L := [.ref 0, .int x1, .int x2, .int x3, .int r5, .null]) (st := []) (w := w5) rfl h13).trans <|
    (runs_stps (q' := (59, [.ref 0, .int x1, .int x2, .int x3, .int r5, .null], [.ref 0], w5)) 1 rfl).trans <|
    (runs_getD (pc := 62) (L := [.ref 0, .int x1, .int x2, .int x3, .int r5, .null]) (st := []) (w := w5) rfl h14 (by decide)).trans <|
    (runs_stps (q' := (67, [.ref 0, .int x1, .int x2, .int x3, .int r5, .null], [.int r5, .int (1 <<< (x1 &&& 31)), .ref 20], w5)) 4 rfl).trans <|
    (runs_callV (rv := some (.int r6)) (w' := w6) rfl rfl rfl rfl h15).trans <|
    (runs_if_f (a := 73) (b := 76) (L := [.ref 0, .int x1, .int x2, .int x3, .int r5, .null]) (st := []) (w := w6) rfl h16).trans <|
    (runs_stps (q' := (81, [.ref 0, .null, .null, .int x3, .int r5, .null], [.int x3, .ref 4], w6)) 3 rfl).trans <|
    (runs_callV (rv := some (.int r7)) (w' := w7) rfl rfl rfl rfl h17).trans <|
    (runs_stps (q' := (88, [.ref 0, .null, .null, .int x3, .int r5, .int r7], [.int r7], w7)) 2 rfl).trans <|
    (runs_callS (rv := some (.int r8)) (w' := w8) rfl rfl rfl h18).trans <|
    (runs_if_t (a := 97) (b := 94) (L := [.ref 0, .null, .null, .int x3, .int r5, .int r7]) (st := []) (w := w8) rfl h19).trans <|
    (runs_stps (q' := (106, [.ref 0, .null, .null, .int x3, .int r5, .int r7], [.int r5, .int r7, .int x3, .ref 4], w8)) 5 rfl).trans <|
    (runs_callS (rv := some (.int r9)) (w' := w9) rfl rfl rfl h20).trans <|
    (runs_stps (q' := (110, [.ref 0, .null, .null, .int x3, .int r5, .int r7], [.ref 0, .int r9, .int x3, .ref 4], w9)) 1 rfl).trans <|
    (runs_getD (pc := 113) (L := [.ref 0, .null, .null, .int x3, .int r5, .int r7]) (st := [.int r9, .int x3, .ref 4]) (w := w9) rfl h21 (by decide)).trans <|
    (runs_callV (rv := some (.int r10)) (w' := w10) rfl rfl rfl rfl h22).trans <|
    (runs_callV (rv := none) (w' := w11) rfl rfl rfl rfl h23).trans <|
    (runs_stps (q' := (121, [.ref 0, .null, .null, .int x3, .int r5, .int r7], [.int r5], w11)) 1 rfl).trans <|
    runs_ret rfl
  · exact (runs_stps (q' := (1, [.ref 0, .int x1, .int x2, .int x3, .null, .null], [.ref 0], w)) 1 rfl).trans <|
    (runs_getD (pc := 4) (L := [.ref 0, .int x1, .int x2, .int x3, .null, .null]) (st := []) (w := w) rfl h1 (by decide)).trans <|
    (runs_stps (q' := (5, [.ref 0, .int x1, .int x2, .int x3, .null, .null], [.int x1, .ref 27], w)) 1 rfl).trans <|
    (runs_callV (rv := some (.int r1)) (w' := w1) rfl rfl rfl rfl h2).trans <|
    (runs_if_f (a := 38) (b := 11) (L := [.ref 0, .int x1, .int x2, .int x3, .null, .null]) (st := []) (w := w1) rfl h3).trans <|
    (runs_stps (q' := (12, [.ref 0, .int x1, .int x2, .int x3, .null, .null], [.ref 0], w1)) 1 rfl).trans <|
    (runs_getD (pc := 15) (L := [.ref 0, .int x1, .int x2, .int x3, .null, .null]) (st := []) (w := w1) rfl h4 (by decide)).trans <|
    (runs_stps (q' := (16, [.ref 0, .int x1, .int x2, .int x3, .null, .null], [.int x2, .ref 27], w1)) 1 rfl).trans <|
    (runs_callV (rv := some (.int r2)) (w' := w2) rfl rfl rfl rfl h5).trans <|
    (runs_if_f (a := 38) (b := 22) (L := [.ref 0, .int x1, .int x2, .int x3, .null, .null]) (st := []) (w := w2) rfl h6).trans <|
    (runs_stps (q' := (23, [.ref 0, .int x1, .int x2, .int x3, .null, .null], [.ref 0], w2)) 1 rfl).trans <|
    (runs_getD (pc := 26) (L := [.ref 0, .int x1, .int x2, .int x3, .null, .null]) (st := []) (w := w2) rfl h7 (by decide)).trans <|
    (runs_stps (q' := (27, [.ref 0, .int x1, .int x2, .int x3, .null, .null], [.int x3, .ref 27], w2)) 1 rfl).trans <|
    (runs_callV (rv := some (.int r3)) (w' := w3) rfl rfl rfl rfl h8).trans <|
    (runs_if_f (a := 38) (b := 33) (L := [.ref 0, .int x1, .int x2, .int x3, .null, .null]) (st := []) (w := w3) rfl h9).trans <|
    (runs_stps (q' := (35, [.ref 0, .int x1, .int x2, .int x3, .null, .null], [.int x3, .int x2], w3)) 2 rfl).trans <|
    (runs_if_f (a := 38) (b := 40) (L := [.ref 0, .int x1, .int x2, .int x3, .null, .null]) (st := []) (w := w3) rfl h10).trans <|
    (runs_stps (q' := (45, [.ref 0, .int x1, .int x2, .int x3, .null, .null], [.int x2, .ref 4], w3)) 3 rfl).trans <|
    (runs_callV (rv := some (.int r4)) (w' := w4) rfl rfl rfl rfl h11).trans <|
    (runs_callS (rv := some (.int r5)) (w' := w5) rfl rfl rfl h12).trans <|
    (runs_stps (q' := (55, [.ref 0, .int x1, .int x2, .int x3, .int r5, .null], [.int r5], w5)) 2 rfl).trans <|
    (runs_if_f (a := 73) (b := 58) (L := [.ref 0, .int x1, .int x2, .int x3, .int r5, .null]) (st := []) (w := w5) rfl h13).trans <|
    (runs_stps (q' := (59, [.ref 0, .int x1, .int x2, .int x3, .int r5, .null], [.ref 0], w5)) 1 rfl).trans <|
    (runs_getD (pc := 62) (L := [.ref 0, .int x1, .int x2, .int x3, .int r5, .null]) (st := []) (w := w5) rfl h14 (by decide)).trans <|
    (runs_stps (q' := (67, [.ref 0, .int x1, .int x2, .int x3, .int r5, .null], [.int r5, .int (1 <<< (x1 &&& 31)), .ref 27], w5)) 4 rfl).trans <|
    (runs_callV (rv := some (.int r6)) (w' := w6) rfl rfl rfl rfl h15).trans <|
    (runs_if_f (a := 73) (b := 76) (L := [.ref 0, .int x1, .int x2, .int x3, .int r5, .null]) (st := []) (w := w6) rfl h16).trans <|
    (runs_stps (q' := (81, [.ref 0, .null, .null, .int x3, .int r5, .null], [.int x3, .ref 4], w6)) 3 rfl).trans <|
    (runs_callV (rv := some (.int r7)) (w' := w7) rfl rfl rfl rfl h17).trans <|
    (runs_stps (q' := (88, [.ref 0, .null, .null, .int x3, .int r5, .int r7], [.int r7], w7)) 2 rfl).trans <|
    (runs_callS (rv := some (.int r8)) (w' := w8) rfl rfl rfl h18).trans <|
    (runs_if_t (a := 97) (b := 94) (L := [.ref 0, .null, .null, .int x3, .int r5, .int r7]) (st := []) (w := w8) rfl h19).trans <|
    (runs_stps (q' := (106, [.ref 0, .null, .null, .int x3, .int r5, .int r7], [.int r5, .int r7, .int x3, .ref 4], w8)) 5 rfl).trans <|
    (runs_callS (rv := some (.int r9)) (w' := w9) rfl rfl rfl h20).trans <|
    (runs_stps (q' := (110, [.ref 0, .null, .null, .int x3, .int r5, .int r7], [.ref 0, .int r9, .int x3, .ref 4], w9)) 1 rfl).trans <|
    (runs_getD (pc := 113) (L := [.ref 0, .null, .null, .int x3, .int r5, .int r7]) (st := [.int r9, .int x3, .ref 4]) (w := w9) rfl h21 (by decide)).trans <|
    (runs_callV (rv := some (.int r10)) (w' := w10) rfl rfl rfl rfl h22).trans <|
    (runs_callV (rv := none) (w' := w11) rfl rfl rfl rfl h23).trans <|
    (runs_stps (q' := (121, [.ref 0, .null, .null, .int x3, .int r5, .int r7], [.int r5], w11)) 1 rfl).trans <|
    runs_ret rfl
theorem p_X8_copy_0FFFTFTF_R {ex : Ex} {p : Nat} {x1 : Int32} {x2 : Int32} {x3 : Int32} {r1 : Int32} {w1 : Wd} {r2 : Int32} {w2 : Wd} {r3 : Int32} {w3 : Wd} {r4 : Int32} {w4 : Wd} {r5 : Int32} {w5 : Wd} {r6 : Int32} {w6 : Wd} {r7 : Int32} {w7 : Wd} {r8 : Int32} {w8 : Wd} {w : Wd} (hp : scp p) (h1 : w.1 0 5 = nI p) (h2 : ex 61 [.ref p, .int x1] w = some (some (.int r1), w1)) (h3 : ¬ r1 = 0) (h4 : w1.1 0 5 = nI p) (h5 : ex 60 [.ref p, .int x2] w1 = some (some (.int r2), w2)) (h6 : ¬ r2 = 0) (h7 : w2.1 0 5 = nI p) (h8 : ex 60 [.ref p, .int x3] w2 = some (some (.int r3), w3)) (h9 : ¬ r3 = 0) (h10 : ¬ x2 = x3) (h11 : ex 92 [.ref 4, .int x2] w3 = some (some (.int r4), w4)) (h12 : ex 40 [.int r4] w4 = some (some (.int r5), w5)) (h13 : ¬ r5 < 0) (h14 : w5.1 0 5 = nI p) (h15 : ex 71 [.ref p, .int (1 <<< (x1 &&& 31)), .int r5] w5 = some (some (.int r6), w6)) (h16 : ¬ r6 = 0) (h17 : ex 92 [.ref 4, .int x3] w6 = some (some (.int r7), w7)) (h18 : ex 38 [.int r7] w7 = some (some (.int r8), w8)) (h19 : ¬ r8 = 0) : runs (T_X8_copy ex) (0, [.ref 0, .int x1, .int x2, .int x3, .null, .null], [], w) = some (some (.int (-3)), w8) := by
  rcases hp with rfl | rfl
  · exact (runs_stps (q' := (1, [.ref 0, .int x1, .int x2, .int x3, .null, .null], [.ref 0], w)) 1 rfl).trans <|
    (runs_getD (pc := 4) (L := [.ref 0, .int x1, .int x2, .int x3, .null, .null]) (st := []) (w := w) rfl h1 (by decide)).trans <|
    (runs_stps (q' := (5, [.ref 0, .int x1, .int x2, .int x3, .null, .null], [.int x1, .ref 20], w)) 1 rfl).trans <|
    (runs_callV (rv := some (.int r1)) (w' := w1) rfl rfl rfl rfl h2).trans <|
    (runs_if_f (a := 38) (b := 11) (L := [.ref 0, .int x1, .int x2, .int x3, .null, .null]) (st := []) (w := w1) rfl h3).trans <|
    (runs_stps (q' := (12, [.ref 0, .int x1, .int x2, .int x3, .null, .null], [.ref 0], w1)) 1 rfl).trans <|
    (runs_getD (pc := 15) (L := [.ref 0, .int x1, .int x2, .int x3, .null, .null]) (st := []) (w := w1) rfl h4 (by decide)).trans <|
    (runs_stps (q' := (16, [.ref 0, .int x1, .int x2, .int x3, .null, .null], [.int x2, .ref 20], w1)) 1 rfl).trans <|
    (runs_callV (rv := some (.int r2)) (w' := w2) rfl rfl rfl rfl h5).trans <|
    (runs_if_f (a := 38) (b := 22) (L := [.ref 0, .int x1, .int x2, .int x3, .null, .null]) (st := []) (w := w2) rfl h6).trans <|
    (runs_stps (q' := (23, [.ref 0, .int x1, .int x2, .int x3, .null, .null], [.ref 0], w2)) 1 rfl).trans <|
    (runs_getD (pc := 26) (L := [.ref 0, .int x1, .int x2, .int x3, .null, .null]) (st := []) (w := w2) rfl h7 (by decide)).trans <|
    (runs_stps (q' := (27, [.ref 0, .int x1, .int x2, .int x3, .null, .null], [.int x3, .ref 20], w2)) 1 rfl).trans <|
    (runs_callV (rv := some (.int r3)) (w' := w3) rfl rfl rfl rfl h8).trans <|
    (runs_if_f (a := 38) (b := 33) (L := [.ref 0, .int x1, .int x2, .int x3, .null, .null]) (st := []) (w := w3) rfl h9).trans <|
    (runs_stps (q' := (35, [.ref 0, .int x1, .int x2, .int x3, .null, .null], [.int x3, .int x2], w3)) 2 rfl).trans <|
    (runs_if_f (a := 38) (b := 40) (L := [.ref 0, .int x1, .int x2, .int x3, .null, .null]) (st := []) (w := w3) rfl h10).trans <|
    (runs_stps (q' := (45, [.ref 0, .int x1, .int x2, .int x3, .null, .null], [.int x2, .ref 4], w3)) 3 rfl).trans <|
    (runs_callV (rv := some (.int r4)) (w' := w4) rfl rfl rfl rfl h11).trans <|
    (runs_callS (rv := some (.int r5)) (w' := w5) rfl rfl rfl h12).trans <|
    (runs_stps (q' := (55, [.ref 0, .int x1, .int x2, .int x3, .int r5, .null], [.int r5], w5)) 2 rfl).trans <|
    (runs_if_f (a := 73) (b := 58) (L := [.ref 0, .int x1, .int x2, .int x3, .int r5, .null]) (st := []) (w := w5) rfl h13).trans <|
    (runs_stps (q' := (59, [.ref 0, .int x1, .int x2, .int x3, .int r5, .null], [.ref 0], w5)) 1 rfl).trans <|
    (runs_getD (pc := 62) (L := [.ref 0, .int x1, .int x2, .int x3, .int r5, .null]) (st := []) (w := w5) rfl h14 (by decide)).trans <|
    (runs_stps (q' := (67, [.ref 0, .int x1, .int x2, .int x3, .int r5, .null], [.int r5, .int (1 <<< (x1 &&& 31)), .ref 20], w5)) 4 rfl).trans <|
    (runs_callV (rv := some (.int r6)) (w' := w6) rfl rfl rfl rfl h15).trans <|
    (runs_if_f (a := 73) (b := 76) (L := [.ref 0, .int x1, .int x2, .int x3, .int r5, .null]) (st := []) (w := w6) rfl h16).trans <|
    (runs_stps (q' := (81, [.ref 0, .null, .null, .int x3, .int r5, .null], [.int x3, .ref 4], w6)) 3 rfl).trans <|
    (runs_callV (rv := some (.int r7)) (w' := w7) rfl rfl rfl rfl h17).trans <|
    (runs_stps (q' := (88, [.ref 0, .null, .null, .int x3, .int r5, .int r7], [.int r7], w7)) 2 rfl).trans <|
    (runs_callS (rv := some (.int r8)) (w' := w8) rfl rfl rfl h18).trans <|
    (runs_if_f (a := 97) (b := 94) (L := [.ref 0, .null, .null, .int x3, .int r5, .int r7]) (st := []) (w := w8) rfl h19).trans <|
    (runs_stps (q' := (96, [.ref 0, .null, .null, .int x3, .int r5, .int r7], [.int (-3)], w8)) 1 rfl).trans <|
    runs_ret rfl
  · exact (runs_stps (q' := (1, [.ref 0, .int x1, .int x2, .int x3, .null, .null], [.ref 0], w)) 1 rfl).trans <|
    (runs_getD (pc := 4) (L := [.ref 0, .int x1, .int x2, .int x3, .null, .null]) (st := []) (w := w) rfl h1 (by decide)).trans <|
    (runs_stps (q' := (5, [.ref 0, .int x1, .int x2, .int x3, .null, .null], [.int x1, .ref 27], w)) 1 rfl).trans <|
    (runs_callV (rv := some (.int r1)) (w' := w1) rfl rfl rfl rfl h2).trans <|
    (runs_if_f (a := 38) (b := 11) (L := [.ref 0, .int x1, .int x2, .int x3, .null, .null]) (st := []) (w := w1) rfl h3).trans <|
    (runs_stps (q' := (12, [.ref 0, .int x1, .int x2, .int x3, .null, .null], [.ref 0], w1)) 1 rfl).trans <|
    (runs_getD (pc := 15) (L := [.ref 0, .int x1, .int x2, .int x3, .null, .null]) (st := []) (w := w1) rfl h4 (by decide)).trans <|
    (runs_stps (q' := (16, [.ref 0, .int x1, .int x2, .int x3, .null, .null], [.int x2, .ref 27], w1)) 1 rfl).trans <|
    (runs_callV (rv := some (.int r2)) (w' := w2) rfl rfl rfl rfl h5).trans <|
    (runs_if_f (a := 38) (b := 22) (L := [.ref 0, .int x1, .int x2, .int x3, .null, .null]) (st := []) (w := w2) rfl h6).trans <|
    (runs_stps (q' := (23, [.ref 0, .int x1, .int x2, .int x3, .null, .null], [.ref 0], w2)) 1 rfl).trans <|
    (runs_getD (pc := 26) (L := [.ref 0, .int x1, .int x2, .int x3, .null, .null]) (st := []) (w := w2) rfl h7 (by decide)).trans <|
    (runs_stps (q' := (27, [.ref 0, .int x1, .int x2, .int x3, .null, .null], [.int x3, .ref 27], w2)) 1 rfl).trans <|
    (runs_callV (rv := some (.int r3)) (w' := w3) rfl rfl rfl rfl h8).trans <|
    (runs_if_f (a := 38) (b := 33) (L := [.ref 0, .int x1, .int x2, .int x3, .null, .null]) (st := []) (w := w3) rfl h9).trans <|
    (runs_stps (q' := (35, [.ref 0, .int x1, .int x2, .int x3, .null, .null], [.int x3, .int x2], w3)) 2 rfl).trans <|
    (runs_if_f (a := 38) (b := 40) (L := [.ref 0, .int x1, .int x2, .int x3, .null, .null]) (st := []) (w := w3) rfl h10).trans <|
    (runs_stps (q' := (45, [.ref 0, .int x1, .int x2, .int x3, .null, .null], [.int x2, .ref 4], w3)) 3 rfl).trans <|
    (runs_callV (rv := some (.int r4)) (w' := w4) rfl rfl rfl rfl h11).trans <|
    (runs_callS (rv := some (.int r5)) (w' := w5) rfl rfl rfl h12).trans <|
    (runs_stps (q' := (55, [.ref 0, .int x1, .int x2, .int x3, .int r5, .null], [.int r5], w5)) 2 rfl).trans <|
    (runs_if_f (a := 73) (b := 58) (L := [.ref 0, .int x1, .int x2, .int x3, .int r5, .null]) (st := []) (w := w5) rfl h13).trans <|
    (runs_stps (q' := (59, [.ref 0, .int x1, .int x2, .int x3, .int r5, .null], [.ref 0], w5)) 1 rfl).trans <|
    (runs_getD (pc := 62) (L := [.ref 0, .int x1, .int x2, .int x3, .int r5, .null]) (st := []) (w := w5) rfl h14 (by decide)).trans <|
    (runs_stps (q' := (67, [.ref 0, .int x1, .int x2, .int x3, .int r5, .null], [.int r5, .int (1 <<< (x1 &&& 31)), .ref 27], w5)) 4 rfl).trans <|
    (runs_callV (rv := some (.int r6)) (w' := w6) rfl rfl rfl rfl h15).trans <|
    (runs_if_f (a := 73) (b := 76) (L := [.ref 0, .int x1, .int x2, .int x3, .int r5, .null]) (st := []) (w := w6) rfl h16).trans <|
    (runs_stps (q' := (81, [.ref 0, .null, .null, .int x3, .int r5, .null], [.int x3, .ref 4], w6)) 3 rfl).trans <|
    (runs_callV (rv := some (.int r7)) (w' := w7) rfl rfl rfl rfl h17).trans <|
    (runs_stps (q' := (88, [.ref 0, .null, .null, .int x3, .int r5, .int r7], [.int r7], w7)) 2 rfl).trans <|
    (runs_callS (rv := some (.int r8)) (w' := w8) rfl rfl rfl h18).trans <|
    (runs_if_f (a := 97) (b := 94) (L := [.ref 0, .null, .null, .int x3, .int r5, .int r7]) (st := []) (w := w8) rfl h19).trans <|
    (runs_stps (q' := (96, [.ref 0, .null, .null, .int x3, .int r5, .int r7], [.int (-3)], w8)) 1 rfl).trans <|
    runs_ret rfl
theorem p_X8_copy_0FFFTFF_R {ex : Ex} {p : Nat} {x1 : Int32} {x2 : Int32} {x3 : Int32} {r1 : Int32} {w1 : Wd} {r2 : Int32} {w2 : Wd} {r3 : Int32} {w3 : Wd} {r4 : Int32} {w4 : Wd} {r5 : Int32} {w5 : Wd} {r6 : Int32} {w6 : Wd} {w : Wd} (hp : scp p) (h1 : w.1 0 5 = nI p) (h2 : ex 61 [.ref p, .int x1] w = some (some (.int r1), w1)) (h3 : ¬ r1 = 0) (h4 : w1.1 0 5 = nI p) (h5 : ex 60 [.ref p, .int x2] w1 = some (some (.int r2), w2)) (h6 : ¬ r2 = 0) (h7 : w2.1 0 5 = nI p) (h8 : ex 60 [.ref p, .int x3] w2 = some (some (.int r3), w3)) (h9 : ¬ r3 = 0) (h10 : ¬ x2 = x3) (h11 : ex 92 [.ref 4, .int x2] w3 = some (some (.int r4), w4)) (h12 : ex 40 [.int r4] w4 = some (some (.int r5), w5)) (h13 : ¬ r5 < 0) (h14 : w5.1 0 5 = nI p) (h15 : ex 71 [.ref p, .int (1 <<< (x1 &&& 31)), .int r5] w5 = some (some (.int r6), w6)) (h16 : r6 = 0) : runs (T_X8_copy ex) (0, [.ref 0, .int x1, .int x2, .int x3, .null, .null], [], w) = some (some (.int (-2)), w6) := by
  rcases hp with rfl | rfl
  · exact (runs_stps (q' := (1, [.ref 0, .int x1, .int x2, .int x3, .null, .null], [.ref 0], w)) 1 rfl).trans <|
    (runs_getD (pc := 4) (L := [.ref 0, .int x1, .int x2, .int x3, .null, .null]) (st := []) (w := w) rfl h1 (by decide)).trans <|
    (runs_stps (q' := (5, [.ref 0, .int x1, .int x2, .int x3, .null, .null], [.int x1, .ref 20], w)) 1 rfl).trans <|
    (runs_callV (rv := some (.int r1)) (w' := w1) rfl rfl rfl rfl h2).trans <|
    (runs_if_f (a := 38) (b := 11) (L := [.ref 0, .int x1, .int x2, .int x3, .null, .null]) (st := []) (w := w1) rfl h3).trans <|
    (runs_stps (q' := (12, [.ref 0, .int x1, .int x2, .int x3, .null, .null], [.ref 0], w1)) 1 rfl).trans <|
    (runs_getD (pc := 15) (L := [.ref 0, .int x1, .int x2, .int x3, .null, .null]) (st := []) (w := w1) rfl h4 (by decide)).trans <|
    (runs_stps (q' := (16, [.ref 0, .int x1, .int x2, .int x3, .null, .null], [.int x2, .ref 20], w1)) 1 rfl).trans <|
    (runs_callV (rv := some (.int r2)) (w' := w2) rfl rfl rfl rfl h5).trans <|
    (runs_if_f (a := 38) (b := 22) (L := [.ref 0, .int x1, .int x2, .int x3, .null, .null]) (st := []) (w := w2) rfl h6).trans <|
    (runs_stps (q' := (23, [.ref 0, .int x1, .int x2, .int x3, .null, .null], [.ref 0], w2)) 1 rfl).trans <|
    (runs_getD (pc := 26) (L := [.ref 0, .int x1, .int x2, .int x3, .null, .null]) (st := []) (w := w2) rfl h7 (by decide)).trans <|
    (runs_stps (q' := (27, [.ref 0, .int x1, .int x2, .int x3, .null, .null], [.int x3, .ref 20], w2)) 1 rfl).trans <|
    (runs_callV (rv := some (.int r3)) (w' := w3) rfl rfl rfl rfl h8).trans <|
    (runs_if_f (a := 38) (b := 33) (L := [.ref 0, .int x1, .int x2, .int x3, .null, .null]) (st := []) (w := w3) rfl h9).trans <|
    (runs_stps (q' := (35, [.ref 0, .int x1, .int x2, .int x3, .null, .null], [.int x3, .int x2], w3)) 2 rfl).trans <|
    (runs_if_f (a := 38) (b := 40) (L := [.ref 0, .int x1, .int x2, .int x3, .null, .null]) (st := []) (w := w3) rfl h10).trans <|
    (runs_stps (q' := (45, [.ref 0, .int x1, .int x2, .int x3, .null, .null], [.int x2, .ref 4], w3)) 3 rfl).trans <|
    (runs_callV (rv := some (.int r4)) (w' := w4) rfl rfl rfl rfl h11).trans <|
    (runs_callS (rv := some (.int r5)) (w' := w5) rfl rfl rfl h12).trans <|
    (runs_stps (q' := (55, [.ref 0, .int x1, .int x2, .int x3, .int r5, .null], [.int r5], w5)) 2 rfl).trans <|
    (runs_if_f (a := 73) (b := 58) (L := [.ref 0, .int x1, .int x2, .int x3, .int r5, .null]) (st := []) (w := w5) rfl h13).trans <|
    (runs_stps (q' := (59, [.ref 0, .int x1, .int x2, .int x3, .int r5, .null], [.ref 0], w5)) 1 rfl).trans <|
    (runs_getD (pc := 62) (L := [.ref 0, .int x1, .int x2, .int x3, .int r5, .null]) (st := []) (w := w5) rfl h14 (by decide)).trans <|
    (runs_stps (q' := (67, [.ref 0, .int x1, .int x2, .int x3, .int r5, .null], [.int r5, .int (1 <<< (x1 &&& 31)), .ref 20], w5)) 4 rfl).trans <|
    (runs_callV (rv := some (.int r6)) (w' := w6) rfl rfl rfl rfl h15).trans <|
    (runs_if_t (a := 73) (b := 76) (L := [.ref 0, .int x1, .int x2, .int x3, .int r5, .null]) (st := []) (w := w6) rfl h16).trans <|
    (runs_stps (q' := (75, [.null, .null, .null, .null, .null, .null], [.int (-2)], w6)) 1 rfl).trans <|
    runs_ret rfl
  · exact (runs_stps (q' := (1, [.ref 0, .int x1, .int x2, .int x3, .null, .null], [.ref 0], w)) 1 rfl).trans <|
    (runs_getD (pc := 4) (L := [.ref 0, .int x1, .int x2, .int x3, .null, .null]) (st := []) (w := w) rfl h1 (by decide)).trans <|
    (runs_stps (q' := (5, [.ref 0, .int x1, .int x2, .int x3, .null, .null], [.int x1, .ref 27], w)) 1 rfl).trans <|
    (runs_callV (rv := some (.int r1)) (w' := w1) rfl rfl rfl rfl h2).trans <|
    (runs_if_f (a := 38) (b := 11) (L := [.ref 0, .int x1, .int x2, .int x3, .null, .null]) (st := []) (w := w1) rfl h3).trans <|
    (runs_stps (q' := (12, [.ref 0, .int x1, .int x2, .int x3, .null, .null], [.ref 0], w1)) 1 rfl).trans <|
    (runs_getD (pc := 15) (L := [.ref 0, .int x1, .int x2, .int x3, .null, .null]) (st := []) (w := w1) rfl h4 (by decide)).trans <|
    (runs_stps (q' := (16, [.ref 0, .int x1, .int x2, .int x3, .null, .null], [.int x2, .ref 27], w1)) 1 rfl).trans <|
    (runs_callV (rv := some (.int r2)) (w' := w2) rfl rfl rfl rfl h5).trans <|
    (runs_if_f (a := 38) (b := 22) (L := [.ref 0, .int x1, .int x2, .int x3, .null, .null]) (st := []) (w := w2) rfl h6).trans <|
    (runs_stps (q' := (23, [.ref 0, .int x1, .int x2, .int x3, .null, .null], [.ref 0], w2)) 1 rfl).trans <|
    (runs_getD (pc := 26) (L := [.ref 0, .int x1, .int x2, .int x3, .null, .null]) (st := []) (w := w2) rfl h7 (by decide)).trans <|
    (runs_stps (q' := (27, [.ref 0, .int x1, .int x2, .int x3, .null, .null], [.int x3, .ref 27], w2)) 1 rfl).trans <|
    (runs_callV (rv := some (.int r3)) (w' := w3) rfl rfl rfl rfl h8).trans <|
    (runs_if_f (a := 38) (b := 33) (L := [.ref 0, .int x1, .int x2, .int x3, .null, .null]) (st := []) (w := w3) rfl h9).trans <|
    (runs_stps (q' := (35, [.ref 0, .int x1, .int x2, .int x3, .null, .null], [.int x3, .int x2], w3)) 2 rfl).trans <|
    (runs_if_f (a := 38) (b := 40) (L := [.ref 0, .int x1, .int x2, .int x3, .null, .null]) (st := []) (w := w3) rfl h10).trans <|
    (runs_stps (q' := (45, [.ref 0, .int x1, .int x2, .int x3, .null, .null], [.int x2, .ref 4], w3)) 3 rfl).trans <|
    (runs_callV (rv := some (.int r4)) (w' := w4) rfl rfl rfl rfl h11).trans <|
    (runs_callS (rv := some (.int r5)) (w' := w5) rfl rfl rfl h12).trans <|
    (runs_stps (q' := (55, [.ref 0, .int x1, .int x2, .int x3, .int r5, .null], [.int r5], w5)) 2 rfl).trans <|
    (runs_if_f (a := 73) (b := 58) (L := [.ref 0, .int x1, .int x2, .int x3, .int r5, .null]) (st := []) (w := w5) rfl h13).trans <|
    (runs_stps (q' := (59, [.ref 0, .int x1, .int x2, .int x3, .int r5, .null], [.ref 0], w5)) 1 rfl).trans <|
    (runs_getD (pc := 62) (L := [.ref 0, .int x1, .int x2, .int x3, .int r5, .null]) (st := []) (w := w5) rfl h14 (by decide)).trans <|
    (runs_stps (q' := (67, [.ref 0, .int x1, .int x2, .int x3, .int r5, .null], [.int r5, .int (1 <<< (x1 &&& 31)), .ref 27], w5)) 4 rfl).trans <|
    (runs_callV (rv := some (.int r6)) (w' := w6) rfl rfl rfl rfl h15).trans <|
    (runs_if_t (a := 73) (b := 76) (L := [.ref 0, .int x1, .int x2, .int x3, .int r5, .null]) (st := []) (w := w6) rfl h16).trans <|
    (runs_stps (q' := (75, [.null, .null, .null, .null, .null, .null], [.int (-2)], w6)) 1 rfl).trans <|
    runs_ret rfl
theorem p_X8_copy_0FFFF_R {ex : Ex} {p : Nat} {x1 : Int32} {x2 : Int32} {x3 : Int32} {r1 : Int32} {w1 : Wd} {r2 : Int32} {w2 : Wd} {r3 : Int32} {w3 : Wd} {w : Wd} (hp : scp p) (h1 : w.1 0 5 = nI p) (h2 : ex 61 [.ref p, .int x1] w = some (some (.int r1), w1)) (h3 : ¬ r1 = 0) (h4 : w1.1 0 5 = nI p) (h5 : ex 60 [.ref p, .int x2] w1 = some (some (.int r2), w2)) (h6 : ¬ r2 = 0) (h7 : w2.1 0 5 = nI p) (h8 : ex 60 [.ref p, .int x3] w2 = some (some (.int r3), w3)) (h9 : ¬ r3 = 0) (h10 : x2 = x3) : runs (T_X8_copy ex) (0, [.ref 0, .int x1, .int x2, .int x3, .null, .null], [], w) = some (some (.int (-1)), w3) := by
  rcases hp with rfl | rfl
  · exact (runs_stps (q' := (1, [.ref 0, .int x1, .int x2, .int x3, .null, .null], [.ref 0], w)) 1 rfl).trans <|
    (runs_getD (pc := 4) (L := [.ref 0, .int x1, .int x2, .int x3, .null, .null]) (st := []) (w := w) rfl h1 (by decide)).trans <|
    (runs_stps (q' := (5, [.ref 0, .int x1, .int x2, .int x3, .null, .null], [.int x1, .ref 20], w)) 1 rfl).trans <|
    (runs_callV (rv := some (.int r1)) (w' := w1) rfl rfl rfl rfl h2).trans <|
    (runs_if_f (a := 38) (b := 11) (L := [.ref 0, .int x1, .int x2, .int x3, .null, .null]) (st := []) (w := w1) rfl h3).trans <|
    (runs_stps (q' := (12, [.ref 0, .int x1, .int x2, .int x3, .null, .null], [.ref 0], w1)) 1 rfl).trans <|
    (runs_getD (pc := 15) (L := [.ref 0, .int x1, .int x2, .int x3, .null, .null]) (st := []) (w := w1) rfl h4 (by decide)).trans <|
    (runs_stps (q' := (16, [.ref 0, .int x1, .int x2, .int x3, .null, .null], [.int x2, .ref 20], w1)) 1 rfl).trans <|
    (runs_callV (rv := some (.int r2)) (w' := w2) rfl rfl rfl rfl h5).trans <|
    (runs_if_f (a := 38) (b := 22) (L := [.ref 0, .int x1, .int x2, .int x3, .null, .null]) (st := []) (w := w2) rfl h6).trans <|
    (runs_stps (q' := (23, [.ref 0, .int x1, .int x2, .int x3, .null, .null], [.ref 0], w2)) 1 rfl).trans <|
    (runs_getD (pc := 26) (L := [.ref 0, .int x1, .int x2, .int x3, .null, .null]) (st := []) (w := w2) rfl h7 (by decide)).trans <|
    (runs_stps (q' := (27, [.ref 0, .int x1, .int x2, .int x3, .null, .null], [.int x3, .ref 20], w2)) 1 rfl).trans <|
    (runs_callV (rv := some (.int r3)) (w' := w3) rfl rfl rfl rfl h8).trans <|
    (runs_if_f (a := 38) (b := 33) (L := [.ref 0, .int x1, .int x2, .int x3, .null, .null]) (st := []) (w := w3) rfl h9).trans <|
    (runs_stps (q' := (35, [.ref 0, .int x1, .int x2, .int x3, .null, .null], [.int x3, .int x2], w3)) 2 rfl).trans <|
    (runs_if_t (a := 38) (b := 40) (L := [.ref 0, .int x1, .int x2, .int x3, .null, .null]) (st := []) (w := w3) rfl h10).trans <|
    (runs_stps (q' := (39, [.null, .null, .null, .null, .null, .null], [.int (-1)], w3)) 1 rfl).trans <|
    runs_ret rfl
  · exact (runs_stps (q' := (1, [.ref 0, .int x1, .int x2, .int x3, .null, .null], [.ref 0], w)) 1 rfl).trans <|
    (runs_getD (pc := 4) (L := [.ref 0, .int x1, .int x2, .int x3, .null, .null]) (st := []) (w := w) rfl h1 (by decide)).trans <|
    (runs_stps (q' := (5, [.ref 0, .int x1, .int x2, .int x3, .null, .null], [.int x1, .ref 27], w)) 1 rfl).trans <|
    (runs_callV (rv := some (.int r1)) (w' := w1) rfl rfl rfl rfl h2).trans <|
    (runs_if_f (a := 38) (b := 11) (L := [.ref 0, .int x1, .int x2, .int x3, .null, .null]) (st := []) (w := w1) rfl h3).trans <|
    (runs_stps (q' := (12, [.ref 0, .int x1, .int x2, .int x3, .null, .null], [.ref 0], w1)) 1 rfl).trans <|
    (runs_getD (pc := 15) (L := [.ref 0, .int x1, .int x2, .int x3, .null, .null]) (st := []) (w := w1) rfl h4 (by decide)).trans <|
    (runs_stps (q' := (16, [.ref 0, .int x1, .int x2, .int x3, .null, .null], [.int x2, .ref 27], w1)) 1 rfl).trans <|
    (runs_callV (rv := some (.int r2)) (w' := w2) rfl rfl rfl rfl h5).trans <|
    (runs_if_f (a := 38) (b := 22) (L := [.ref 0, .int x1, .int x2, .int x3, .null, .null]) (st := []) (w := w2) rfl h6).trans <|
    (runs_stps (q' := (23, [.ref 0, .int x1, .int x2, .int x3, .null, .null], [.ref 0], w2)) 1 rfl).trans <|
    (runs_getD (pc := 26) (L := [.ref 0, .int x1, .int x2, .int x3, .null, .null]) (st := []) (w := w2) rfl h7 (by decide)).trans <|
    (runs_stps (q' := (27, [.ref 0, .int x1, .int x2, .int x3, .null, .null], [.int x3, .ref 27], w2)) 1 rfl).trans <|
    (runs_callV (rv := some (.int r3)) (w' := w3) rfl rfl rfl rfl h8).trans <|
    (runs_if_f (a := 38) (b := 33) (L := [.ref 0, .int x1, .int x2, .int x3, .null, .null]) (st := []) (w := w3) rfl h9).trans <|
    (runs_stps (q' := (35, [.ref 0, .int x1, .int x2, .int x3, .null, .null], [.int x3, .int x2], w3)) 2 rfl).trans <|
    (runs_if_t (a := 38) (b := 40) (L := [.ref 0, .int x1, .int x2, .int x3, .null, .null]) (st := []) (w := w3) rfl h10).trans <|
    (runs_stps (q' := (39, [.null, .null, .null, .null, .null, .null], [.int (-1)], w3)) 1 rfl).trans <|
    runs_ret rfl
theorem p_X8_undo_0T_R {ex : Ex} {r1 : Int32} {w1 : Wd} {w : Wd} (h1 : ex 96 [.ref 4] w = some (some (.int r1), w1)) (h2 : r1 = 0) : runs (T_X8_undo ex) (0, [.ref 0], [], w) = some (some (.int (-2)), w1) := 
    (runs_stps (q' := (4, [.ref 0], [.ref 4], w)) 2 rfl).trans <|
    (runs_callV (rv := some (.int r1)) (w' := w1) rfl rfl rfl rfl h1).trans <|
    (runs_if_t (a := 20) (b := 10) (L := [.ref 0]) (st := []) (w := w1) rfl h2).trans <|
    (runs_stps (q' := (22, [.null], [.int (-2)], w1)) 1 rfl).trans <|
    runs_ret rfl
theorem p_X8_undo_0F_R {ex : Ex} {r1 : Int32} {w1 : Wd} {r2 : Int32} {w2 : Wd} {w : Wd} (h1 : ex 96 [.ref 4] w = some (some (.int r1), w1)) (h2 : ¬ r1 = 0) (h3 : ex 94 [.ref 4] w1 = some (some (.int r2), w2)) : runs (T_X8_undo ex) (0, [.ref 0], [], w) = some (some (.int r2), w2) := 
    (runs_stps (q' := (4, [.ref 0], [.ref 4], w)) 2 rfl).trans <|
    (runs_callV (rv := some (.int r1)) (w' := w1) rfl rfl rfl rfl h1).trans <|
    (runs_if_f (a := 20) (b := 10) (L := [.ref 0]) (st := []) (w := w1) rfl h2).trans <|
    (runs_stps (q' := (14, [.ref 0], [.ref 4], w1)) 2 rfl).trans <|
    (runs_callV (rv := some (.int r2)) (w' := w2) rfl rfl rfl rfl h3).trans <|
    (runs_stps (q' := (22, [.ref 0], [.int r2], w2)) 1 rfl).trans <|
    runs_ret rfl
theorem p_X8_now_0S0_R {ex : Ex} {p : Nat} {x1 : Int32} {r1 : Int32} {w1 : Wd} {w : Wd} (hp : scp p) (h1 : x1 = 0) (h2 : ex 93 [.ref 4] w = some (some (.int r1), w1)) : runs (T_X8_now ex) (0, [.ref 0, .int x1], [], w) = some (some (.int r1), w1) := by
  rcases hp with rfl | rfl
  · exact (runs_stps (q' := (1, [.ref 0, .int x1], [.int x1], w)) 1 rfl).trans <|
    (runs_sw (L := [.ref 0, .int x1]) (st := []) (w := w) rfl (show tsel _ _ _ = 32 by rw [h1]; rfl)).trans <|
    (runs_stps (q' := (36, [.ref 0, .null], [.ref 4], w)) 2 rfl).trans <|
    (runs_callV (rv := some (.int r1)) (w' := w1) rfl rfl rfl rfl h2).trans <|
    runs_ret rfl
  · exact (runs_stps (q' := (1, [.ref 0, .int x1], [.int x1], w)) 1 rfl).trans <|
    (runs_sw (L := [.ref 0, .int x1]) (st := []) (w := w) rfl (show tsel _ _ _ = 32 by rw [h1]; rfl)).trans <|
    (runs_stps (q' := (36, [.ref 0, .null], [.ref 4], w)) 2 rfl).trans <|
    (runs_callV (rv := some (.int r1)) (w' := w1) rfl rfl rfl rfl h2).trans <|
    runs_ret rfl
theorem p_X8_now_0S1_R {ex : Ex} {p : Nat} {x1 : Int32} {r1 : Int32} {w1 : Wd} {w : Wd} (hp : scp p) (h1 : x1 = 1) (h2 : w.1 0 5 = nI p) (h3 : ex 97 [.ref 4, .ref p] w = some (some (.int r1), w1)) : runs (T_X8_now ex) (0, [.ref 0, .int x1], [], w) = some (some (.int r1), w1) := by
  rcases hp with rfl | rfl
  · exact (runs_stps (q' := (1, [.ref 0, .int x1], [.int x1], w)) 1 rfl).trans <|
    (runs_sw (L := [.ref 0, .int x1]) (st := []) (w := w) rfl (show tsel _ _ _ = 40 by rw [h1]; rfl)).trans <|
    (runs_stps (q' := (45, [.ref 0, .null], [.ref 0, .ref 4], w)) 3 rfl).trans <|
    (runs_getD (pc := 48) (L := [.ref 0, .null]) (st := [.ref 4]) (w := w) rfl h2 (by decide)).trans <|
    (runs_callV (rv := some (.int r1)) (w' := w1) rfl rfl rfl rfl h3).trans <|
    runs_ret rfl
  · exact (runs_stps (q' := (1, [.ref 0, .int x1], [.int x1], w)) 1 rfl).trans <|
    (runs_sw (L := [.ref 0, .int x1]) (st := []) (w := w) rfl (show tsel _ _ _ = 40 by rw [h1]; rfl)).trans <|
    (runs_stps (q' := (45, [.ref 0, .null], [.ref 0, .ref 4], w)) 3 rfl).trans <|
    (runs_getD (pc := 48) (L := [.ref 0, .null]) (st := [.ref 4]) (w := w) rfl h2 (by decide)).trans <|
    (runs_callV (rv := some (.int r1)) (w' := w1) rfl rfl rfl rfl h3).trans <|
    runs_ret rfl
theorem p_X8_now_0S2_R {ex : Ex} {p : Nat} {x1 : Int32} {r1 : Int32} {w1 : Wd} {w : Wd} (hp : scp p) (h1 : x1 = 2) (h2 : ex 98 [.ref 4] w = some (some (.int r1), w1)) : runs (T_X8_now ex) (0, [.ref 0, .int x1], [], w) = some (some (.int r1), w1) := by
  rcases hp with rfl | rfl
  · exact (runs_stps (q' := (1, [.ref 0, .int x1], [.int x1], w)) 1 rfl).trans <|
    (runs_sw (L := [.ref 0, .int x1]) (st := []) (w := w) rfl (show tsel _ _ _ = 52 by rw [h1]; rfl)).trans <|
    (runs_stps (q' := (56, [.ref 0, .null], [.ref 4], w)) 2 rfl).trans <|
    (runs_callV (rv := some (.int r1)) (w' := w1) rfl rfl rfl rfl h2).trans <|
    runs_ret rfl
  · exact (runs_stps (q' := (1, [.ref 0, .int x1], [.int x1], w)) 1 rfl).trans <|
    (runs_sw (L := [.ref 0, .int x1]) (st := []) (w := w) rfl (show tsel _ _ _ = 52 by rw [h1]; rfl)).trans <|
    (runs_stps (q' := (56, [.ref 0, .null], [.ref 4], w)) 2 rfl).trans <|
    (runs_callV (rv := some (.int r1)) (w' := w1) rfl rfl rfl rfl h2).trans <|
    runs_ret rfl
theorem p_X8_now_0S3_R {ex : Ex} {p : Nat} {x1 : Int32} {r1 : Int32} {w1 : Wd} {w : Wd} (hp : scp p) (h1 : x1 = 3) (h2 : ex 94 [.ref 4] w = some (some (.int r1), w1)) : runs (T_X8_now ex) (0, [.ref 0, .int x1], [], w) = some (some (.int r1), w1) := by
  rcases hp with rfl | rfl
  · exact (runs_stps (q' := (1, [.ref 0, .int x1], [.int x1], w)) 1 rfl).trans <|
    (runs_sw (L := [.ref 0, .int x1]) (st := []) (w := w) rfl (show tsel _ _ _ = 60 by rw [h1]; rfl)).trans <|
    (runs_stps (q' := (64, [.ref 0, .null], [.ref 4], w)) 2 rfl).trans <|
    (runs_callV (rv := some (.int r1)) (w' := w1) rfl rfl rfl rfl h2).trans <|
    runs_ret rfl
  · exact (runs_stps (q' := (1, [.ref 0, .int x1], [.int x1], w)) 1 rfl).trans <|
    (runs_sw (L := [.ref 0, .int x1]) (st := []) (w := w) rfl (show tsel _ _ _ = 60 by rw [h1]; rfl)).trans <|
    (runs_stps (q' := (64, [.ref 0, .null], [.ref 4], w)) 2 rfl).trans <|
    (runs_callV (rv := some (.int r1)) (w' := w1) rfl rfl rfl rfl h2).trans <|
    runs_ret rfl
theorem p_X8_now_0Sd_R {ex : Ex} {p : Nat} {x1 : Int32} {w : Wd} (hp : scp p) (h1 : ¬ x1 = 0) (h2 : ¬ x1 = 1) (h3 : ¬ x1 = 2) (h4 : ¬ x1 = 3) : runs (T_X8_now ex) (0, [.ref 0, .int x1], [], w) = some (some (.int (-1)), w) := by
  rcases hp with rfl | rfl
  · exact (runs_stps (q' := (1, [.ref 0, .int x1], [.int x1], w)) 1 rfl).trans <|
    (runs_sw (L := [.ref 0, .int x1]) (st := []) (w := w) rfl (show tsel _ _ _ = 68 by simp only [tsel, h1, h2, h3, h4, if_false])).trans <|
    (runs_stps (q' := (69, [.null, .null], [.int (-1)], w)) 1 rfl).trans <|
    runs_ret rfl
  · exact (runs_stps (q' := (1, [.ref 0, .int x1], [.int x1], w)) 1 rfl).trans <|
    (runs_sw (L := [.ref 0, .int x1]) (st := []) (w := w) rfl (show tsel _ _ _ = 68 by simp only [tsel, h1, h2, h3, h4, if_false])).trans <|
    (runs_stps (q' := (69, [.null, .null], [.int (-1)], w)) 1 rfl).trans <|
    runs_ret rfl
theorem p_X8_cheapest_0T_R {ex : Ex} {p : Nat} {x1 : Int32} {x2 : Int32} {x3 : Int32} {x4 : Int32} {r1 : Int32} {w1 : Wd} {w : Wd} (hp : scp p) (h1 : w.1 0 5 = nI p) (h2 : ex 60 [.ref p, .int x1] w = some (some (.int r1), w1)) (h3 : r1 = 0) : runs (T_X8_cheapest ex) (0, [.ref 0, .int x1, .int x2, .int x3, .int x4, .null, .null], [], w) = some (some (.int (-1)), w1) := by
  rcases hp with rfl | rfl
  · exact (runs_stps (q' := (1, [.ref 0, .int x1, .int x2, .int x3, .int x4, .null, .null], [.ref 0], w)) 1 rfl).trans <|
    (runs_getD (pc := 4) (L := [.ref 0, .int x1, .int x2, .int x3, .int x4, .null, .null]) (st := []) (w := w) rfl h1 (by decide)).trans <|
    (runs_stps (q' := (5, [.ref 0, .int x1, .int x2, .int x3, .int x4, .null, .null], [.int x1, .ref 20], w)) 1 rfl).trans <|
    (runs_callV (rv := some (.int r1)) (w' := w1) rfl rfl rfl rfl h2).trans <|
    (runs_if_t (a := 37) (b := 11) (L := [.ref 0, .int x1, .int x2, .int x3, .int x4, .null, .null]) (st := []) (w := w1) rfl h3).trans <|
    (runs_stps (q' := (38, [.null, .null, .null, .null, .null, .null, .null], [.int (-1)], w1)) 1 rfl).trans <|
    runs_ret rfl
  · exact (runs_stps (q' := (1, [.ref 0, .int x1, .int x2, .int x3, .int x4, .null, .null], [.ref 0], w)) 1 rfl).trans <|
    (runs_getD (pc := 4) (L := [.ref 0, .int x1, .int x2, .int x3, .int x4, .null, .null]) (st := []) (w := w) rfl h1 (by decide)).trans <|
    (runs_stps (q' := (5, [.ref 0, .int x1, .int x2, .int x3, .int x4, .null, .null], [.int x1, .ref 27], w)) 1 rfl).trans <|
    (runs_callV (rv := some (.int r1)) (w' := w1) rfl rfl rfl rfl h2).trans <|
    (runs_if_t (a := 37) (b := 11) (L := [.ref 0, .int x1, .int x2, .int x3, .int x4, .null, .null]) (st := []) (w := w1) rfl h3).trans <|
    (runs_stps (q' := (38, [.null, .null, .null, .null, .null, .null, .null], [.int (-1)], w1)) 1 rfl).trans <|
    runs_ret rfl
theorem p_X8_cheapest_0FT_R {ex : Ex} {p : Nat} {x1 : Int32} {x2 : Int32} {x3 : Int32} {x4 : Int32} {r1 : Int32} {w1 : Wd} {r2 : Int32} {w2 : Wd} {w : Wd} (hp : scp p) (h1 : w.1 0 5 = nI p) (h2 : ex 60 [.ref p, .int x1] w = some (some (.int r1), w1)) (h3 : ¬ r1 = 0) (h4 : ex 130 [.int x2] w1 = some (some (.int r2), w2)) (h5 : r2 = 0) : runs (T_X8_cheapest ex) (0, [.ref 0, .int x1, .int x2, .int x3, .int x4, .null, .null], [], w) = some (some (.int (-1)), w2) := by
  rcases hp with rfl | rfl
  · exact (runs_stps (q' := (1, [.ref 0, .int x1, .int x2, .int x3, .int x4, .null, .null], [.ref 0], w)) 1 rfl).trans <|
    (runs_getD (pc := 4) (L := [.ref 0, .int x1, .int x2, .int x3, .int x4, .null, .null]) (st := []) (w := w) rfl h1 (by decide)).trans <|
    (runs_stps (q' := (5, [.ref 0, .int x1, .int x2, .int x3, .int x4, .null, .null], [.int x1, .ref 20], w)) 1 rfl).trans <|
    (runs_callV (rv := some (.int r1)) (w' := w1) rfl rfl rfl rfl h2).trans <|
    (runs_if_f (a := 37) (b := 11) (L := [.ref 0, .int x1, .int x2, .int x3, .int x4, .null, .null]) (st := []) (w := w1) rfl h3).trans <|
    (runs_stps (q' := (12, [.ref 0, .int x1, .int x2, .int x3, .int x4, .null, .null], [.int x2], w1)) 1 rfl).trans <|
    (runs_callS (rv := some (.int r2)) (w' := w2) rfl rfl rfl h4).trans <|
    (runs_if_t (a := 37) (b := 18) (L := [.ref 0, .int x1, .int x2, .int x3, .int x4, .null, .null]) (st := []) (w := w2) rfl h5).trans <|
    (runs_stps (q' := (38, [.null, .null, .null, .null, .null, .null, .null], [.int (-1)], w2)) 1 rfl).trans <|
    runs_ret rfl
  · exact (runs_stps (q' := (1, [.ref 0, .int x1, .int x2, .int x3, .int x4, .null, .null], [.ref 0], w)) 1 rfl).trans <|
    (runs_getD (pc := 4) (L := [.ref 0, .int x1, .int x2, .int x3, .int x4, .null, .null]) (st := []) (w := w) rfl h1 (by decide)).trans <|
    (runs_stps (q' := (5, [.ref 0, .int x1, .int x2, .int x3, .int x4, .null, .null], [.int x1, .ref 27], w)) 1 rfl).trans <|
    (runs_callV (rv := some (.int r1)) (w' := w1) rfl rfl rfl rfl h2).trans <|
    (runs_if_f (a := 37) (b := 11) (L := [.ref 0, .int x1, .int x2, .int x3, .int x4, .null, .null]) (st := []) (w := w1) rfl h3).trans <|
    (runs_stps (q' := (12, [.ref 0, .int x1, .int x2, .int x3, .int x4, .null, .null], [.int x2], w1)) 1 rfl).trans <|
    (runs_callS (rv := some (.int r2)) (w' := w2) rfl rfl rfl h4).trans <|
    (runs_if_t (a := 37) (b := 18) (L := [.ref 0, .int x1, .int x2, .int x3, .int x4, .null, .null]) (st := []) (w := w2) rfl h5).trans <|
    (runs_stps (q' := (38, [.null, .null, .null, .null, .null, .null, .null], [.int (-1)], w2)) 1 rfl).trans <|
    runs_ret rfl
theorem p_X8_cheapest_0FFT_R {ex : Ex} {p : Nat} {x1 : Int32} {x2 : Int32} {x3 : Int32} {x4 : Int32} {r1 : Int32} {w1 : Wd} {r2 : Int32} {w2 : Wd} {r3 : Int32} {w3 : Wd} {w : Wd} (hp : scp p) (h1 : w.1 0 5 = nI p) (h2 : ex 60 [.ref p, .int x1] w = some (some (.int r1), w1)) (h3 : ¬ r1 = 0) (h4 : ex 130 [.int x2] w1 = some (some (.int r2), w2)) (h5 : ¬ r2 = 0) (h6 : w2.1 0 5 = nI p) (h7 : ex 62 [.ref p, .int x3] w2 = some (some (.int r3), w3)) (h8 : r3 = 0) : runs (T_X8_cheapest ex) (0, [.ref 0, .int x1, .int x2, .int x3, .int x4, .null, .null], [], w) = some (some (.int (-1)), w3) := by
  rcases hp with rfl | rfl
  · exact (runs_stps (q' := (1, [.ref 0, .int x1, .int x2, .int x3, .int x4, .null, .null], [.ref 0], w)) 1 rfl).trans <|
    (runs_getD (pc := 4) (L := [.ref 0, .int x1, .int x2, .int x3, .int x4, .null, .null]) (st := []) (w := w) rfl h1 (by decide)).trans <|
    (runs_stps (q' := (5, [.ref 0, .int x1, .int x2, .int x3, .int x4, .null, .null], [.int x1, .ref 20], w)) 1 rfl).trans <|
    (runs_callV (rv := some (.int r1)) (w' := w1) rfl rfl rfl rfl h2).trans <|
    (runs_if_f (a := 37) (b := 11) (L := [.ref 0, .int x1, .int x2, .int x3, .int x4, .null, .null]) (st := []) (w := w1) rfl h3).trans <|
    (runs_stps (q' := (12, [.ref 0, .int x1, .int x2, .int x3, .int x4, .null, .null], [.int x2], w1)) 1 rfl).trans <|
    (runs_callS (rv := some (.int r2)) (w' := w2) rfl rfl rfl h4).trans <|
    (runs_if_f (a := 37) (b := 18) (L := [.ref 0, .int x1, .int x2, .int x3, .int x4, .null, .null]) (st := []) (w := w2) rfl h5).trans <|
    (runs_stps (q' := (19, [.ref 0, .int x1, .int x2, .int x3, .int x4, .null, .null], [.ref 0], w2)) 1 rfl).trans <|
    (runs_getD (pc := 22) (L := [.ref 0, .int x1, .int x2, .int x3, .int x4, .null, .null]) (st := []) (w := w2) rfl h6 (by decide)).trans <|
    (runs_stps (q' := (23, [.ref 0, .int x1, .int x2, .int x3, .int x4, .null, .null], [.int x3, .ref 20], w2)) 1 rfl).trans <|
    (runs_callV (rv := some (.int r3)) (w' := w3) rfl rfl rfl rfl h7).trans <|
    (runs_if_t (a := 37) (b := 29) (L := [.ref 0, .int x1, .int x2, .int x3, .int x4, .null, .null]) (st := []) (w := w3) rfl h8).trans <|
    (runs_stps (q' := (38, [.null, .null, .null, .null, .null, .null, .null], [.int (-1)], w3)) 1 rfl).trans <|
    runs_ret rfl
  · exact (runs_stps (q' := (1, [.ref 0, .int x1, .int x2, .int x3, .int x4, .null, .null], [.ref 0], w)) 1 rfl).trans <|
    (runs_getD (pc := 4) (L := [.ref 0, .int x1, .int x2, .int x3, .int x4, .null, .null]) (st := []) (w := w) rfl h1 (by decide)).trans <|
    (runs_stps (q' := (5, [.ref 0, .int x1, .int x2, .int x3, .int x4, .null, .null], [.int x1, .ref 27], w)) 1 rfl).trans <|
    (runs_callV (rv := some (.int r1)) (w' := w1) rfl rfl rfl rfl h2).trans <|
    (runs_if_f (a := 37) (b := 11) (L := [.ref 0, .int x1, .int x2, .int x3, .int x4, .null, .null]) (st := []) (w := w1) rfl h3).trans <|
    (runs_stps (q' := (12, [.ref 0, .int x1, .int x2, .int x3, .int x4, .null, .null], [.int x2], w1)) 1 rfl).trans <|
    (runs_callS (rv := some (.int r2)) (w' := w2) rfl rfl rfl h4).trans <|
    (runs_if_f (a := 37) (b := 18) (L := [.ref 0, .int x1, .int x2, .int x3, .int x4, .null, .null]) (st := []) (w := w2) rfl h5).trans <|
    (runs_stps (q' := (19, [.ref 0, .int x1, .int x2, .int x3, .int x4, .null, .null], [.ref 0], w2)) 1 rfl).trans <|
    (runs_getD (pc := 22) (L := [.ref 0, .int x1, .int x2, .int x3, .int x4, .null, .null]) (st := []) (w := w2) rfl h6 (by decide)).trans <|
    (runs_stps (q' := (23, [.ref 0, .int x1, .int x2, .int x3, .int x4, .null, .null], [.int x3, .ref 27], w2)) 1 rfl).trans <|
    (runs_callV (rv := some (.int r3)) (w' := w3) rfl rfl rfl rfl h7).trans <|
    (runs_if_t (a := 37) (b := 29) (L := [.ref 0, .int x1, .int x2, .int x3, .int x4, .null, .null]) (st := []) (w := w3) rfl h8).trans <|
    (runs_stps (q' := (38, [.null, .null, .null, .null, .null, .null, .null], [.int (-1)], w3)) 1 rfl).trans <|
    runs_ret rfl
theorem p_X8_cheapest_0FFFTTTT_R {ex : Ex} {p : Nat} {x1 : Int32} {x2 : Int32} {x3 : Int32} {x4 : Int32} {r1 : Int32} {w1 : Wd} {r2 : Int32} {w2 : Wd} {r3 : Int32} {w3 : Wd} {r4 : Int32} {w4 : Wd} {r5 : Int32} {w5 : Wd} {r6 : Int32} {w6 : Wd} {r7 : Int32} {w7 : Wd} {r8 : Int32} {w8 : Wd} {r9 : Int32} {w9 : Wd} {w : Wd} (hp : scp p) (h1 : w.1 0 5 = nI p) (h2 : ex 60 [.ref p, .int x1] w = some (some (.int r1), w1)) (h3 : ¬ r1 = 0) (h4 : ex 130 [.int x2] w1 = some (some (.int r2), w2)) (h5 : ¬ r2 = 0) (h6 : w2.1 0 5 = nI p) (h7 : ex 62 [.ref p, .int x3] w2 = some (some (.int r3), w3)) (h8 : ¬ r3 = 0) (h9 : ex 131 [.int x4] w3 = some (some (.int r4), w4)) (h10 : ¬ r4 = 0) (h11 : ex 92 [.ref 4, .int x1] w4 = some (some (.int r5), w5)) (h12 : w5.1 0 5 = nI p) (h13 : w5.1 0 5 = nI p) (h14 : ex 69 [.ref p, .int x3] w5 = some (some (.int r6), w6)) (h15 : ex 78 [.ref p, .int r5, .int x2, .int r6] w6 = some (some (.int r7), w7)) (h16 : ¬ r7 = 0) (h17 : w7.1 0 5 = nI p) (h18 : ex 83 [.ref 11, .ref p, .int r5, .int x2, .int x3] w7 = some (some (.int r8), w8)) (h19 : ¬ r8 = 1073741824) (h20 : ¬ x4 = 0) (h21 : ex 82 [.int r8] w8 = some (some (.int r9), w9)) : runs (T_X8_cheapest ex) (0, [.ref 0, .int x1, .int x2, .int x3, .int x4, .null, .null], [], w) = some (some (.int r9), w9) := by
  rcases hp with rfl | rfl
  · exact (runs_stps (q' := (1, [.ref 0, .int x1, .int x2, .int x3, .int x4, .null, .null], [.ref 0], w)) 1 rfl).trans <|
    (runs_getD (pc := 4) (L := [.ref 0, .int x1, .int x2, .int x3, .int x4, .null, .null]) (st := []) (w := w) rfl h1 (by decide)).trans <|
    (runs_stps (q' := (5, [.ref 0, .int x1, .int x2, .int x3, .int x4, .null, .null], [.int x1, .ref 20], w)) 1 rfl).trans <|
    (runs_callV (rv := some (.int r1)) (w' := w1) rfl rfl rfl rfl h2).trans <|
    (runs_if_f (a := 37) (b := 11) (L := [.ref 0, .int x1, .int x2, .int x3, .int x4, .null, .null]) (st := []) (w := w1) rfl h3).trans <|
    (runs_stps (q' := (12, [.ref 0, .int x1, .int x2, .int x3, .int x4, .null, .null], [.int x2], w1)) 1 rfl).trans <|
    (runs_callS (rv := some (.int r2)) (w' := w2) rfl rfl rfl h4).trans <|
    (runs_if_f (a := 37) (b := 18) (L := [.ref 0, .int x1, .int x2, .int x3, .int x4, .null, .null]) (st := []) (w := w2) rfl h5).trans <|
    (runs_stps (q' := (19, [.ref 0, .int x1, .int x2, .int x3, .int x4, .null, .null], [.ref 0], w2)) 1 rfl).trans <|
    (runs_getD (pc := 22) (L := [.ref 0, .int x1, .int x2, .int x3, .int x4, .null, .null]) (st := []) (w := w2) rfl h6 (by decide)).trans <|
    (runs_stps (q' := (23, [.ref 0, .int x1, .int x2, .int x3, .int x4, .null, .null], [.int x3, .ref 20], w2)) 1 rfl).trans <|
    (runs_callV (rv := some (.int r3)) (w' := w3) rfl rfl rfl rfl h7).trans <|
    (runs_if_f (a := 37) (b := 29) (L := [.ref 0, .int x1, .int x2, .int x3, .int x4, .null, .null]) (st := []) (w := w3) rfl h8).trans <|
    (runs_stps (q' := (31, [.ref 0, .int x1, .int x2, .int x3, .int x4, .null, .null], [.int x4], w3)) 1 rfl).trans <|
    (runs_callS (rv := some (.int r4)) (w' := w4) rfl rfl rfl h9).trans <|
    (runs_if_f (a := 37) (b := 39) (L := [.ref 0, .int x1, .int x2, .int x3, .int x4, .null, .null]) (st := []) (w := w4) rfl h10).trans <|
    (runs_stps (q' := (44, [.ref 0, .int x1, .int x2, .int x3, .int x4, .null, .null], [.int x1, .ref 4], w4)) 3 rfl).trans <|
    (runs_callV (rv := some (.int r5)) (w' := w5) rfl rfl rfl rfl h11).trans <|
    (runs_stps (q' := (50, [.ref 0, .int x1, .int x2, .int x3, .int x4, .int r5, .null], [.ref 0], w5)) 2 rfl).trans <|
    (runs_getD (pc := 53) (L := [.ref 0, .int x1, .int x2, .int x3, .int x4, .int r5, .null]) (st := []) (w := w5) rfl h12 (by decide)).trans <|
    (runs_stps (q' := (57, [.ref 0, .int x1, .int x2, .int x3, .int x4, .int r5, .null], [.ref 0, .int x2, .int r5, .ref 20], w5)) 3 rfl).trans <|
    (runs_getD (pc := 60) (L := [.ref 0, .int x1, .int x2, .int x3, .int x4, .int r5, .null]) (st := [.int x2, .int r5, .ref 20]) (w := w5) rfl h13 (by decide)).trans <|
    (runs_stps (q' := (61, [.ref 0, .int x1, .int x2, .int x3, .int x4, .int r5, .null], [.int x3, .ref 20, .int x2, .int r5, .ref 20], w5)) 1 rfl).trans <|
    (runs_callV (rv := some (.int r6)) (w' := w6) rfl rfl rfl rfl h14).trans <|
    (runs_callV (rv := some (.int r7)) (w' := w7) rfl rfl rfl rfl h15).trans <|
    (runs_if_f (a := 70) (b := 73) (L := [.ref 0, .int x1, .int x2, .int x3, .int x4, .int r5, .null]) (st := []) (w := w7) rfl h16).trans <|
    (runs_stps (q' := (78, [.ref 0, .null, .int x2, .int x3, .int x4, .int r5, .null], [.ref 0, .ref 11], w7)) 3 rfl).trans <|
    (runs_getD (pc := 81) (L := [.ref 0, .null, .int x2, .int x3, .int x4, .int r5, .null]) (st := [.ref 11]) (w := w7) rfl h17 (by decide)).trans <|
    (runs_stps (q' := (85, [.ref 0, .null, .int x2, .int x3, .int x4, .int r5, .null], [.int x3, .int x2, .int r5, .ref 20, .ref 11], w7)) 3 rfl).trans <|
    (runs_callV (rv := some (.int r8)) (w' := w8) rfl rfl rfl rfl h18).trans <|
    (runs_stps (q' := (94, [.ref 0, .null, .int x2, .int x3, .int x4, .int r5, .int r8], [.int 1073741824, .int r8], w8)) 3 rfl).trans <|
    (runs_if_f (a := 97) (b := 100) (L := [.ref 0, .null, .int x2, .int x3, .int x4, .int r5, .int r8]) (st := []) (w := w8) rfl h19).trans <|
    (runs_stps (q' := (102, [.null, .null, .null, .null, .int x4, .null, .int r8], [.int x4], w8)) 1 rfl).trans <|
    (runs_if_f (a := 105) (b := 113) (L := [.null, .null, .null, .null, .int x4, .null, .int r8]) (st := []) (w := w8) rfl h20).trans <|
    (runs_stps (q' := (115, [.null, .null, .null, .null, .null, .null, .int r8], [.int r8], w8)) 1 rfl).trans <|
    (runs_callS (rv := some (.int r9)) (w' := w9) rfl rfl rfl h21).trans <|
    runs_ret rfl
  · exact (runs_stps (q' := (1, [.ref 0, .int x1, .int x2, .int x3, .int x4, .null, .null], [.ref 0], w)) 1 rfl).trans <|
    (runs_getD (pc := 4) (L := [.ref 0, .int x1, .int x2, .int x3, .int x4, .null, .null]) (st := []) (w := w) rfl h1 (by decide)).trans <|
    (runs_stps (q' := (5, [.ref 0, .int x1, .int x2, .int x3, .int x4, .null, .null], [.int x1, .ref 27], w)) 1 rfl).trans <|
    (runs_callV (rv := some (.int r1)) (w' := w1) rfl rfl rfl rfl h2).trans <|
    (runs_if_f (a := 37) (b := 11) (L := [.ref 0, .int x1, .int x2, .int x3, .int x4, .null, .null]) (st := []) (w := w1) rfl h3).trans <|
    (runs_stps (q' := (12, [.ref 0, .int x1, .int x2, .int x3, .int x4, .null, .null], [.int x2], w1)) 1 rfl).trans <|
    (runs_callS (rv := some (.int r2)) (w' := w2) rfl rfl rfl h4).trans <|
    (runs_if_f (a := 37) (b := 18) (L := [.ref 0, .int x1, .int x2, .int x3, .int x4, .null, .null]) (st := []) (w := w2) rfl h5).trans <|
    (runs_stps (q' := (19, [.ref 0, .int x1, .int x2, .int x3, .int x4, .null, .null], [.ref 0], w2)) 1 rfl).trans <|
    (runs_getD (pc := 22) (L := [.ref 0, .int x1, .int x2, .int x3, .int x4, .null, .null]) (st := []) (w := w2) rfl h6 (by decide)).trans <|
    (runs_stps (q' := (23, [.ref 0, .int x1, .int x2, .int x3, .int x4, .null, .null], [.int x3, .ref 27], w2)) 1 rfl).trans <|
    (runs_callV (rv := some (.int r3)) (w' := w3) rfl rfl rfl rfl h7).trans <|
    (runs_if_f (a := 37) (b := 29) (L := [.ref 0, .int x1, .int x2, .int x3, .int x4, .null, .null]) (st := []) (w := w3) rfl h8).trans <|
    (runs_stps (q' := (31, [.ref 0, .int x1, .int x2, .int x3, .int x4, .null, .null], [.int x4], w3)) 1 rfl).trans <|
    (runs_callS (rv := some (.int r4)) (w' := w4) rfl rfl rfl h9).trans <|
    (runs_if_f (a := 37) (b := 39) (L := [.ref 0, .int x1, .int x2, .int x3, .int x4, .null, .null]) (st := []) (w := w4) rfl h10).trans <|
    (runs_stps (q' := (44, [.ref 0, .int x1, .int x2, .int x3, .int x4, .null, .null], [.int x1, .ref 4], w4)) 3 rfl).trans <|
    (runs_callV (rv := some (.int r5)) (w' := w5) rfl rfl rfl rfl h11).trans <|
    (runs_stps (q' := (50, [.ref 0, .int x1, .int x2, .int x3, .int x4, .int r5, .null], [.ref 0], w5)) 2 rfl).trans <|
    (runs_getD (pc := 53) (L := [.ref 0, .int x1, .int x2, .int x3, .int x4, .int r5, .null]) (st := []) (w := w5) rfl h12 (by decide)).trans <|
    (runs_stps (q' := (57, [.ref 0, .int x1, .int x2, .int x3, .int x4, .int r5, .null], [.ref 0, .int x2, .int r5, .ref 27], w5)) 3 rfl).trans <|
    (runs_getD (pc := 60) (L := [.ref 0, .int x1, .int x2, .int x3, .int x4, .int r5, .null]) (st := [.int x2, .int r5, .ref 27]) (w := w5) rfl h13 (by decide)).trans <|
    (runs_stps (q' := (61, [.ref 0, .int x1, .int x2, .int x3, .int x4, .int r5, .null], [.int x3, .ref 27, .int x2, .int r5, .ref 27], w5)) 1 rfl).trans <|
    (runs_callV (rv := some (.int r6)) (w' := w6) rfl rfl rfl rfl h14).trans <|
    (runs_callV (rv := some (.int r7)) (w' := w7) rfl rfl rfl rfl h15).trans <|
    (runs_if_f (a := 70) (b := 73) (L := [.ref 0, .int x1, .int x2, .int x3, .int x4, .int r5, .null]) (st := []) (w := w7) rfl h16).trans <|
    (runs_stps (q' := (78, [.ref 0, .null, .int x2, .int x3, .int x4, .int r5, .null], [.ref 0, .ref 11], w7)) 3 rfl).trans <|
    (runs_getD (pc := 81) (L := [.ref 0, .null, .int x2, .int x3, .int x4, .int r5, .null]) (st := [.ref 11]) (w := w7) rfl h17 (by decide)).trans <|
    (runs_stps (q' := (85, [.ref 0, .null, .int x2, .int x3, .int x4, .int r5, .null], [.int x3, .int x2, .int r5, .ref 27, .ref 11], w7)) 3 rfl).trans <|
    (runs_callV (rv := some (.int r8)) (w' := w8) rfl rfl rfl rfl h18).trans <|
    (runs_stps (q' := (94, [.ref 0, .null, .int x2, .int x3, .int x4, .int r5, .int r8], [.int 1073741824, .int r8], w8)) 3 rfl).trans <|
    (runs_if_f (a := 97) (b := 100) (L := [.ref 0, .null, .int x2, .int x3, .int x4, .int r5, .int r8]) (st := []) (w := w8) rfl h19).trans <|
    (runs_stps (q' := (102, [.null, .null, .null, .null, .int x4, .null, .int r8], [.int x4], w8)) 1 rfl).trans <|
    (runs_if_f (a := 105) (b := 113) (L := [.null, .null, .null, .null, .int x4, .null, .int r8]) (st := []) (w := w8) rfl h20).trans <|
    (runs_stps (q' := (115, [.null, .null, .null, .null, .null, .null, .int r8], [.int r8], w8)) 1 rfl).trans <|
    (runs_callS (rv := some (.int r9)) (w' := w9) rfl rfl rfl h21).trans <|
    runs_ret rfl
theorem p_X8_cheapest_0FFFTTTF_R {ex : Ex} {p : Nat} {x1 : Int32} {x2 : Int32} {x3 : Int32} {x4 : Int32} {r1 : Int32} {w1 : Wd} {r2 : Int32} {w2 : Wd} {r3 : Int32} {w3 : Wd} {r4 : Int32} {w4 : Wd} {r5 : Int32} {w5 : Wd} {r6 : Int32} {w6 : Wd} {r7 : Int32} {w7 : Wd} {r8 : Int32} {w8 : Wd} {r9 : Int32} {w9 : Wd} {w : Wd} (hp : scp p) (h1 : w.1 0 5 = nI p) (h2 : ex 60 [.ref p, .int x1] w = some (some (.int r1), w1)) (h3 : ¬ r1 = 0) (h4 : ex 130 [.int x2] w1 = some (some (.int r2), w2)) (h5 : ¬ r2 = 0) (h6 : w2.1 0 5 = nI p) (h7 : ex 62 [.ref p, .int x3] w2 = some (some (.int r3), w3)) (h8 : ¬ r3 = 0) (h9 : ex 131 [.int x4] w3 = some (some (.int r4), w4)) (h10 : ¬ r4 = 0) (h11 : ex 92 [.ref 4, .int x1] w4 = some (some (.int r5), w5)) (h12 : w5.1 0 5 = nI p) (h13 : w5.1 0 5 = nI p) (h14 : ex 69 [.ref p, .int x3] w5 = some (some (.int r6), w6)) (h15 : ex 78 [.ref p, .int r5, .int x2, .int r6] w6 = some (some (.int r7), w7)) (h16 : ¬ r7 = 0) (h17 : w7.1 0 5 = nI p) (h18 : ex 83 [.ref 11, .ref p, .int r5, .int x2, .int x3] w7 = some (some (.int r8), w8)) (h19 : ¬ r8 = 1073741824) (h20 : x4 = 0) (h21 : ex 81 [.int r8] w8 = some (some (.int r9), w9)) : runs (T_X8_cheapest ex) (0, [.ref 0, .int x1, .int x2, .int x3, .int x4, .null, .null], [], w) = some (some (.int r9), w9) := by
  rcases hp with rfl | rfl
  · exact (runs_stps (q' := (1, [.ref 0, .int x1, .int x2, .int x3, .int x4, .null, .null], [.ref 0], w)) 1 rfl).trans <|
    (runs_getD (pc := 4) (L := [.ref 0, .int x1, .int x2, .int x3, .int x4, .null, .null]) (st := []) (w := w) rfl h1 (by decide)).trans <|
    (runs_stps (q' := (5, [.ref 0, .int x1, .int x2, .int x3, .int x4, .null, .null], [.int x1, .ref 20], w)) 1 rfl).trans <|
    (runs_callV (rv := some (.int r1)) (w' := w1) rfl rfl rfl rfl h2).trans <|
    (runs_if_f (a := 37) (b := 11) (L := [.ref 0, .int x1, .int x2, .int x3, .int x4, .null, .null]) (st := []) (w := w1) rfl h3).trans <|
    (runs_stps (q' := (12, [.ref 0, .int x1, .int x2, .int x3, .int x4, .null, .null], [.int x2], w1)) 1 rfl).trans <|
    (runs_callS (rv := some (.int r2)) (w' := w2) rfl rfl rfl h4).trans <|
    (runs_if_f (a := 37) (b := 18) (L := [.ref 0, .int x1, .int x2, .int x3, .int x4, .null, .null]) (st := []) (w := w2) rfl h5).trans <|
    (runs_stps (q' := (19, [.ref 0, .int x1, .int x2, .int x3, .int x4, .null, .null], [.ref 0], w2)) 1 rfl).trans <|
    (runs_getD (pc := 22) (L := [.ref 0, .int x1, .int x2, .int x3, .int x4, .null, .null]) (st := []) (w := w2) rfl h6 (by decide)).trans <|
    (runs_stps (q' := (23, [.ref 0, .int x1, .int x2, .int x3, .int x4, .null, .null], [.int x3, .ref 20], w2)) 1 rfl).trans <|
    (runs_callV (rv := some (.int r3)) (w' := w3) rfl rfl rfl rfl h7).trans <|
    (runs_if_f (a := 37) (b := 29) (L := [.ref 0, .int x1, .int x2, .int x3, .int x4, .null, .null]) (st := []) (w := w3) rfl h8).trans <|
    (runs_stps (q' := (31, [.ref 0, .int x1, .int x2, .int x3, .int x4, .null, .null], [.int x4], w3)) 1 rfl).trans <|
    (runs_callS (rv := some (.int r4)) (w' := w4) rfl rfl rfl h9).trans <|
    (runs_if_f (a := 37) (b := 39) (L := [.ref 0, .int x1, .int x2, .int x3, .int x4, .null, .null]) (st := []) (w := w4) rfl h10).trans <|
    (runs_stps (q' := (44, [.ref 0, .int x1, .int x2, .int x3, .int x4, .null, .null], [.int x1, .ref 4], w4)) 3 rfl).trans <|
    (runs_callV (rv := some (.int r5)) (w' := w5) rfl rfl rfl rfl h11).trans <|
    (runs_stps (q' := (50, [.ref 0, .int x1, .int x2, .int x3, .int x4, .int r5, .null], [.ref 0], w5)) 2 rfl).trans <|
    (runs_getD (pc := 53) (L := [.ref 0, .int x1, .int x2, .int x3, .int x4, .int r5, .null]) (st := []) (w := w5) rfl h12 (by decide)).trans <|
    (runs_stps (q' := (57, [.ref 0, .int x1, .int x2, .int x3, .int x4, .int r5, .null], [.ref 0, .int x2, .int r5, .ref 20], w5)) 3 rfl).trans <|
    (runs_getD (pc := 60) (L := [.ref 0, .int x1, .int x2, .int x3, .int x4, .int r5, .null]) (st := [.int x2, .int r5, .ref 20]) (w := w5) rfl h13 (by decide)).trans <|
    (runs_stps (q' := (61, [.ref 0, .int x1, .int x2, .int x3, .int x4, .int r5, .null], [.int x3, .ref 20, .int x2, .int r5, .ref 20], w5)) 1 rfl).trans <|
    (runs_callV (rv := some (.int r6)) (w' := w6) rfl rfl rfl rfl h14).trans <|
    (runs_callV (rv := some (.int r7)) (w' := w7) rfl rfl rfl rfl h15).trans <|
    (runs_if_f (a := 70) (b := 73) (L := [.ref 0, .int x1, .int x2, .int x3, .int x4, .int r5, .null]) (st := []) (w := w7) rfl h16).trans <|
    (runs_stps (q' := (78, [.ref 0, .null, .int x2, .int x3, .int x4, .int r5, .null], [.ref 0, .ref 11], w7)) 3 rfl).trans <|
    (runs_getD (pc := 81) (L := [.ref 0, .null, .int x2, .int x3, .int x4, .int r5, .null]) (st := [.ref 11]) (w := w7) rfl h17 (by decide)).trans <|
    (runs_stps (q' := (85, [.ref 0, .null, .int x2, .int x3, .int x4, .int r5, .null], [.int x3, .int x2, .int r5, .ref 20, .ref 11], w7)) 3 rfl).trans <|
    (runs_callV (rv := some (.int r8)) (w' := w8) rfl rfl rfl rfl h18).trans <|
    (runs_stps (q' := (94, [.ref 0, .null, .int x2, .int x3, .int x4, .int r5, .int r8], [.int 1073741824, .int r8], w8)) 3 rfl).trans <|
    (runs_if_f (a := 97) (b := 100) (L := [.ref 0, .null, .int x2, .int x3, .int x4, .int r5, .int r8]) (st := []) (w := w8) rfl h19).trans <|
    (runs_stps (q' := (102, [.null, .null, .null, .null, .int x4, .null, .int r8], [.int x4], w8)) 1 rfl).trans <|
    (runs_if_t (a := 105) (b := 113) (L := [.null, .null, .null, .null, .int x4, .null, .int r8]) (st := []) (w := w8) rfl h20).trans <|
    (runs_stps (q' := (107, [.null, .null, .null, .null, .int x4, .null, .int r8], [.int r8], w8)) 1 rfl).trans <|
    (runs_callS (rv := some (.int r9)) (w' := w9) rfl rfl rfl h21).trans <|
    (runs_stps (q' := (118, [.null, .null, .null, .null, .int x4, .null, .int r8], [.int r9], w9)) 1 rfl).trans <|
    runs_ret rfl
  · exact (runs_stps (q' := (1, [.ref 0, .int x1, .int x2, .int x3, .int x4, .null, .null], [.ref 0], w)) 1 rfl).trans <|
    (runs_getD (pc := 4) (L := [.ref 0, .int x1, .int x2, .int x3, .int x4, .null, .null]) (st := []) (w := w) rfl h1 (by decide)).trans <|
    (runs_stps (q' := (5, [.ref 0, .int x1, .int x2, .int x3, .int x4, .null, .null], [.int x1, .ref 27], w)) 1 rfl).trans <|
    (runs_callV (rv := some (.int r1)) (w' := w1) rfl rfl rfl rfl h2).trans <|
    (runs_if_f (a := 37) (b := 11) (L := [.ref 0, .int x1, .int x2, .int x3, .int x4, .null, .null]) (st := []) (w := w1) rfl h3).trans <|
    (runs_stps (q' := (12, [.ref 0, .int x1, .int x2, .int x3, .int x4, .null, .null], [.int x2], w1)) 1 rfl).trans <|
    (runs_callS (rv := some (.int r2)) (w' := w2) rfl rfl rfl h4).trans <|
    (runs_if_f (a := 37) (b := 18) (L := [.ref 0, .int x1, .int x2, .int x3, .int x4, .null, .null]) (st := []) (w := w2) rfl h5).trans <|
    (runs_stps (q' := (19, [.ref 0, .int x1, .int x2, .int x3, .int x4, .null, .null], [.ref 0], w2)) 1 rfl).trans <|
    (runs_getD (pc := 22) (L := [.ref 0, .int x1, .int x2, .int x3, .int x4, .null, .null]) (st := []) (w := w2) rfl h6 (by decide)).trans <|
    (runs_stps (q' := (23, [.ref 0, .int x1, .int x2, .int x3, .int x4, .null, .null], [.int x3, .ref 27], w2)) 1 rfl).trans <|
    (runs_callV (rv := some (.int r3)) (w' := w3) rfl rfl rfl rfl h7).trans <|
    (runs_if_f (a := 37) (b := 29) (L := [.ref 0, .int x1, .int x2, .int x3, .int x4, .null, .null]) (st := []) (w := w3) rfl h8).trans <|
    (runs_stps (q' := (31, [.ref 0, .int x1, .int x2, .int x3, .int x4, .null, .null], [.int x4], w3)) 1 rfl).trans <|
    (runs_callS (rv := some (.int r4)) (w' := w4) rfl rfl rfl h9).trans <|
    (runs_if_f (a := 37) (b := 39) (L := [.ref 0, .int x1, .int x2, .int x3, .int x4, .null, .null]) (st := []) (w := w4) rfl h10).trans <|
    (runs_stps (q' := (44, [.ref 0, .int x1, .int x2, .int x3, .int x4, .null, .null], [.int x1, .ref 4], w4)) 3 rfl).trans <|
    (runs_callV (rv := some (.int r5)) (w' := w5) rfl rfl rfl rfl h11).trans <|
    (runs_stps (q' := (50, [.ref 0, .int x1, .int x2, .int x3, .int x4, .int r5, .null], [.ref 0], w5)) 2 rfl).trans <|
    (runs_getD (pc := 53) (L := [.ref 0, .int x1, .int x2, .int x3, .int x4, .int r5, .null]) (st := []) (w := w5) rfl h12 (by decide)).trans <|
    (runs_stps (q' := (57, [.ref 0, .int x1, .int x2, .int x3, .int x4, .int r5, .null], [.ref 0, .int x2, .int r5, .ref 27], w5)) 3 rfl).trans <|
    (runs_getD (pc := 60) (L := [.ref 0, .int x1, .int x2, .int x3, .int x4, .int r5, .null]) (st := [.int x2, .int r5, .ref 27]) (w := w5) rfl h13 (by decide)).trans <|
    (runs_stps (q' := (61, [.ref 0, .int x1, .int x2, .int x3, .int x4, .int r5, .null], [.int x3, .ref 27, .int x2, .int r5, .ref 27], w5)) 1 rfl).trans <|
    (runs_callV (rv := some (.int r6)) (w' := w6) rfl rfl rfl rfl h14).trans <|
    (runs_callV (rv := some (.int r7)) (w' := w7) rfl rfl rfl rfl h15).trans <|
    (runs_if_f (a := 70) (b := 73) (L := [.ref 0, .int x1, .int x2, .int x3, .int x4, .int r5, .null]) (st := []) (w := w7) rfl h16).trans <|
    (runs_stps (q' := (78, [.ref 0, .null, .int x2, .int x3, .int x4, .int r5, .null], [.ref 0, .ref 11], w7)) 3 rfl).trans <|
    (runs_getD (pc := 81) (L := [.ref 0, .null, .int x2, .int x3, .int x4, .int r5, .null]) (st := [.ref 11]) (w := w7) rfl h17 (by decide)).trans <|
    (runs_stps (q' := (85, [.ref 0, .null, .int x2, .int x3, .int x4, .int r5, .null], [.int x3, .int x2, .int r5, .ref 27, .ref 11], w7)) 3 rfl).trans <|
    (runs_callV (rv := some (.int r8)) (w' := w8) rfl rfl rfl rfl h18).trans <|
    (runs_stps (q' := (94, [.ref 0, .null, .int x2, .int x3, .int x4, .int r5, .int r8], [.int 1073741824, .int r8], w8)) 3 rfl).trans <|
    (runs_if_f (a := 97) (b := 100) (L := [.ref 0, .null, .int x2, .int x3, .int x4, .int r5, .int r8]) (st := []) (w := w8) rfl h19).trans <|
    (runs_stps (q' := (102, [.null, .null, .null, .null, .int x4, .null, .int r8], [.int x4], w8)) 1 rfl).trans <|
    (runs_if_t (a := 105) (b := 113) (L := [.null, .null, .null, .null, .int x4, .null, .int r8]) (st := []) (w := w8) rfl h20).trans <|
    (runs_stps (q' := (107, [.null, .null, .null, .null, .int x4, .null, .int r8], [.int r8], w8)) 1 rfl).trans <|
    (runs_callS (rv := some (.int r9)) (w' := w9) rfl rfl rfl h21).trans <|
    (runs_stps (q' := (118, [.null, .null, .null, .null, .int x4, .null, .int r8], [.int r9], w9)) 1 rfl).trans <|
    runs_ret rfl

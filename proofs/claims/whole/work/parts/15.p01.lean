/-! paths of the methods (printed by a program) -/
theorem p_X3_canBeNext_0S5FT_R {ex : Ex} {p : Nat} {r1 : Int32} {w1 : Wd} {w : Wd} (hp : scp p) (h1 : (w.1 1 6) = 5) (h2 : ¬ 5 ≤ (w.1 1 8)) (h3 : ex 59 [.ref p, .int (w.1 1 5)] w = some (some (.int r1), w1)) (h4 : r1 = 0) : runs (T_X3_canBeNext ex) (0, [.ref 1, .ref p], [], w) = some (some (.int 0), w1) := by
  rcases hp with rfl | rfl
  · exact (runs_stps (q' := (4, [.ref 1, .ref 20], [.int (w.1 1 6)], w)) 2 rfl).trans <|
    (runs_sw (L := [.ref 1, .ref 20]) (st := []) (w := w) rfl (show tsel _ _ _ = 79 by rw [h1]; rfl)).trans <|
    (runs_stps (q' := (84, [.ref 1, .ref 20], [.int 5, .int (w.1 1 8)], w)) 3 rfl).trans <|
    (runs_if_f (a := 102) (b := 87) (L := [.ref 1, .ref 20]) (st := []) (w := w) rfl h2).trans <|
    (runs_stps (q' := (92, [.ref 1, .ref 20], [.int (w.1 1 5), .ref 20], w)) 3 rfl).trans <|
    (runs_callV (rv := some (.int r1)) (w' := w1) rfl rfl rfl rfl h3).trans <|
    (runs_if_t (a := 102) (b := 98) (L := [.ref 1, .ref 20]) (st := []) (w := w1) rfl h4).trans <|
    (runs_stps (q' := (103, [.null, .null], [.int 0], w1)) 1 rfl).trans <|
    runs_ret rfl
  · exact (runs_stps (q' := (4, [.ref 1, .ref 27], [.int (w.1 1 6)], w)) 2 rfl).trans <|
    (runs_sw (L := [.ref 1, .ref 27]) (st := []) (w := w) rfl (show tsel _ _ _ = 79 by rw [h1]; rfl)).trans <|
    (runs_stps (q' := (84, [.ref 1, .ref 27], [.int 5, .int (w.1 1 8)], w)) 3 rfl).trans <|
    (runs_if_f (a := 102) (b := 87) (L := [.ref 1, .ref 27]) (st := []) (w := w) rfl h2).trans <|
    (runs_stps (q' := (92, [.ref 1, .ref 27], [.int (w.1 1 5), .ref 27], w)) 3 rfl).trans <|
    (runs_callV (rv := some (.int r1)) (w' := w1) rfl rfl rfl rfl h3).trans <|
    (runs_if_t (a := 102) (b := 98) (L := [.ref 1, .ref 27]) (st := []) (w := w1) rfl h4).trans <|
    (runs_stps (q' := (103, [.null, .null], [.int 0], w1)) 1 rfl).trans <|
    runs_ret rfl
theorem p_X3_canBeNext_0S5FF_R {ex : Ex} {p : Nat} {r1 : Int32} {w1 : Wd} {w : Wd} (hp : scp p) (h1 : (w.1 1 6) = 5) (h2 : ¬ 5 ≤ (w.1 1 8)) (h3 : ex 59 [.ref p, .int (w.1 1 5)] w = some (some (.int r1), w1)) (h4 : ¬ r1 = 0) : runs (T_X3_canBeNext ex) (0, [.ref 1, .ref p], [], w) = some (some (.int 1), w1) := by
  rcases hp with rfl | rfl
  · exact (runs_stps (q' := (4, [.ref 1, .ref 20], [.int (w.1 1 6)], w)) 2 rfl).trans <|
    (runs_sw (L := [.ref 1, .ref 20]) (st := []) (w := w) rfl (show tsel _ _ _ = 79 by rw [h1]; rfl)).trans <|
    (runs_stps (q' := (84, [.ref 1, .ref 20], [.int 5, .int (w.1 1 8)], w)) 3 rfl).trans <|
    (runs_if_f (a := 102) (b := 87) (L := [.ref 1, .ref 20]) (st := []) (w := w) rfl h2).trans <|
    (runs_stps (q' := (92, [.ref 1, .ref 20], [.int (w.1 1 5), .ref 20], w)) 3 rfl).trans <|
    (runs_callV (rv := some (.int r1)) (w' := w1) rfl rfl rfl rfl h3).trans <|
    (runs_if_f (a := 102) (b := 98) (L := [.ref 1, .ref 20]) (st := []) (w := w1) rfl h4).trans <|
    (runs_stps (q' := (103, [.ref 1, .ref 20], [.int 1], w1)) 2 rfl).trans <|
    runs_ret rfl
  · exact (runs_stps (q' := (4, [.ref 1, .ref 27], [.int (w.1 1 6)], w)) 2 rfl).trans <|
    (runs_sw (L := [.ref 1, .ref 27]) (st := []) (w := w) rfl (show tsel _ _ _ = 79 by rw [h1]; rfl)).trans <|
    (runs_stps (q' := (84, [.ref 1, .ref 27], [.int 5, .int (w.1 1 8)], w)) 3 rfl).trans <|
    (runs_if_f (a := 102) (b := 87) (L := [.ref 1, .ref 27]) (st := []) (w := w) rfl h2).trans <|
    (runs_stps (q' := (92, [.ref 1, .ref 27], [.int (w.1 1 5), .ref 27], w)) 3 rfl).trans <|
    (runs_callV (rv := some (.int r1)) (w' := w1) rfl rfl rfl rfl h3).trans <|
    (runs_if_f (a := 102) (b := 98) (L := [.ref 1, .ref 27]) (st := []) (w := w1) rfl h4).trans <|
    (runs_stps (q' := (103, [.ref 1, .ref 27], [.int 1], w1)) 2 rfl).trans <|
    runs_ret rfl
theorem p_X3_canBeNext_0S6T_R {ex : Ex} {p : Nat} {w : Wd} (hp : scp p) (h1 : (w.1 1 6) = 6) (h2 : 1 ≤ (w.1 1 8)) : runs (T_X3_canBeNext ex) (0, [.ref 1, .ref p], [], w) = some (some (.int 0), w) := by
  rcases hp with rfl | rfl
  · exact (runs_stps (q' := (4, [.ref 1, .ref 20], [.int (w.1 1 6)], w)) 2 rfl).trans <|
    (runs_sw (L := [.ref 1, .ref 20]) (st := []) (w := w) rfl (show tsel _ _ _ = 104 by rw [h1]; rfl)).trans <|
    (runs_stps (q' := (109, [.ref 1, .ref 20], [.int 1, .int (w.1 1 8)], w)) 3 rfl).trans <|
    (runs_if_t (a := 129) (b := 112) (L := [.ref 1, .ref 20]) (st := []) (w := w) rfl h2).trans <|
    (runs_stps (q' := (130, [.null, .null], [.int 0], w)) 1 rfl).trans <|
    runs_ret rfl
  · exact (runs_stps (q' := (4, [.ref 1, .ref 27], [.int (w.1 1 6)], w)) 2 rfl).trans <|
    (runs_sw (L := [.ref 1, .ref 27]) (st := []) (w := w) rfl (show tsel _ _ _ = 104 by rw [h1]; rfl)).trans <|
    (runs_stps (q' := (109, [.ref 1, .ref 27], [.int 1, .int (w.1 1 8)], w)) 3 rfl).trans <|
    (runs_if_t (a := 129) (b := 112) (L := [.ref 1, .ref 27]) (st := []) (w := w) rfl h2).trans <|
    (runs_stps (q' := (130, [.null, .null], [.int 0], w)) 1 rfl).trans <|
    runs_ret rfl
theorem p_X3_canBeNext_0S6FT_R {ex : Ex} {p : Nat} {r1 : Int32} {w1 : Wd} {w : Wd} (hp : scp p) (h1 : (w.1 1 6) = 6) (h2 : ¬ 1 ≤ (w.1 1 8)) (h3 : ex 53 [.ref p] w = some (some (.int r1), w1)) (h4 : (1 <<< (r1 &&& 31)) ≤ (w.1 1 5)) : runs (T_X3_canBeNext ex) (0, [.ref 1, .ref p], [], w) = some (some (.int 0), w1) := by
  rcases hp with rfl | rfl
  · exact (runs_stps (q' := (4, [.ref 1, .ref 20], [.int (w.1 1 6)], w)) 2 rfl).trans <|
    (runs_sw (L := [.ref 1, .ref 20]) (st := []) (w := w) rfl (show tsel _ _ _ = 104 by rw [h1]; rfl)).trans <|
    (runs_stps (q' := (109, [.ref 1, .ref 20], [.int 1, .int (w.1 1 8)], w)) 3 rfl).trans <|
    (runs_if_f (a := 129) (b := 112) (L := [.ref 1, .ref 20]) (st := []) (w := w) rfl h2).trans <|
    (runs_stps (q' := (118, [.ref 1, .ref 20], [.ref 20, .int 1, .int (w.1 1 5)], w)) 4 rfl).trans <|
    (runs_callV (rv := some (.int r1)) (w' := w1) rfl rfl rfl rfl h3).trans <|
    (runs_stps (q' := (122, [.ref 1, .ref 20], [.int (1 <<< (r1 &&& 31)), .int (w.1 1 5)], w1)) 1 rfl).trans <|
    (runs_if_t (a := 129) (b := 125) (L := [.ref 1, .ref 20]) (st := []) (w := w1) rfl h4).trans <|
    (runs_stps (q' := (130, [.null, .null], [.int 0], w1)) 1 rfl).trans <|
    runs_ret rfl
  · exact (runs_stps (q' := (4, [.ref 1, .ref 27], [.int (w.1 1 6)], w)) 2 rfl).trans <|
    (runs_sw (L := [.ref 1, .ref 27]) (st := []) (w := w) rfl (show tsel _ _ _ = 104 by rw [h1]; rfl)).trans <|
    (runs_stps (q' := (109, [.ref 1, .ref 27], [.int 1, .int (w.1 1 8)], w)) 3 rfl).trans <|
    (runs_if_f (a := 129) (b := 112) (L := [.ref 1, .ref 27]) (st := []) (w := w) rfl h2).trans <|
    (runs_stps (q' := (118, [.ref 1, .ref 27], [.ref 27, .int 1, .int (w.1 1 5)], w)) 4 rfl).trans <|
    (runs_callV (rv := some (.int r1)) (w' := w1) rfl rfl rfl rfl h3).trans <|
    (runs_stps (q' := (122, [.ref 1, .ref 27], [.int (1 <<< (r1 &&& 31)), .int (w.1 1 5)], w1)) 1 rfl).trans <|
    (runs_if_t (a := 129) (b := 125) (L := [.ref 1, .ref 27]) (st := []) (w := w1) rfl h4).trans <|
    (runs_stps (q' := (130, [.null, .null], [.int 0], w1)) 1 rfl).trans <|
    runs_ret rfl
theorem p_X3_canBeNext_0S6FF_R {ex : Ex} {p : Nat} {r1 : Int32} {w1 : Wd} {w : Wd} (hp : scp p) (h1 : (w.1 1 6) = 6) (h2 : ¬ 1 ≤ (w.1 1 8)) (h3 : ex 53 [.ref p] w = some (some (.int r1), w1)) (h4 : ¬ (1 <<< (r1 &&& 31)) ≤ (w.1 1 5)) : runs (T_X3_canBeNext ex) (0, [.ref 1, .ref p], [], w) = some (some (.int 1), w1) := by
  rcases hp with rfl | rfl
  · exact (runs_stps (q' := (4, [.ref 1, .ref 20], [.int (w.1 1 6)], w)) 2 rfl).trans <|
    (runs_sw (L := [.ref 1, .ref 20]) (st := []) (w := w) rfl (show tsel _ _ _ = 104 by rw [h1]; rfl)).trans <|
    (runs_stps (q' := (109, [.ref 1, .ref 20], [.int 1, .int (w.1 1 8)], w)) 3 rfl).trans <|
    (runs_if_f (a := 129) (b := 112) (L := [.ref 1, .ref 20]) (st := []) (w := w) rfl h2).trans <|
    (runs_stps (q' := (118, [.ref 1, .ref 20], [.ref 20, .int 1, .int (w.1 1 5)], w)) 4 rfl).trans <|
    (runs_callV (rv := some (.int r1)) (w' := w1) rfl rfl rfl rfl h3).trans <|
    (runs_stps (q' := (122, [.ref 1, .ref 20], [.int (1 <<< (r1 &&& 31)), .int (w.1 1 5)], w1)) 1 rfl).trans <|
    (runs_if_f (a := 129) (b := 125) (L := [.ref 1, .ref 20]) (st := []) (w := w1) rfl h4).trans <|
    (runs_stps (q' := (130, [.ref 1, .ref 20], [.int 1], w1)) 2 rfl).trans <|
    runs_ret rfl
  · exact (runs_stps (q' := (4, [.ref 1, .ref 27], [.int (w.1 1 6)], w)) 2 rfl).trans <|
    (runs_sw (L := [.ref 1, .ref 27]) (st := []) (w := w) rfl (show tsel _ _ _ = 104 by rw [h1]; rfl)).trans <|
    (runs_stps (q' := (109, [.ref 1, .ref 27], [.int 1, .int (w.1 1 8)], w)) 3 rfl).trans <|
    (runs_if_f (a := 129) (b := 112) (L := [.ref 1, .ref 27]) (st := []) (w := w) rfl h2).trans <|
    (runs_stps (q' := (118, [.ref 1, .ref 27], [.ref 27, .int 1, .int (w.1 1 5)], w)) 4 rfl).trans <|
    (runs_callV (rv := some (.int r1)) (w' := w1) rfl rfl rfl rfl h3).trans <|
    (runs_stps (q' := (122, [.ref 1, .ref 27], [.int (1 <<< (r1 &&& 31)), .int (w.1 1 5)], w1)) 1 rfl).trans <|
    (runs_if_f (a := 129) (b := 125) (L := [.ref 1, .ref 27]) (st := []) (w := w1) rfl h4).trans <|
    (runs_stps (q' := (130, [.ref 1, .ref 27], [.int 1], w1)) 2 rfl).trans <|
    runs_ret rfl
theorem p_X3_canBeNext_0S7T_R {ex : Ex} {p : Nat} {w : Wd} (hp : scp p) (h1 : (w.1 1 6) = 7) (h2 : 1 ≤ (w.1 1 8)) : runs (T_X3_canBeNext ex) (0, [.ref 1, .ref p], [], w) = some (some (.int 0), w) := by
  rcases hp with rfl | rfl
  · exact (runs_stps (q' := (4, [.ref 1, .ref 20], [.int (w.1 1 6)], w)) 2 rfl).trans <|
    (runs_sw (L := [.ref 1, .ref 20]) (st := []) (w := w) rfl (show tsel _ _ _ = 131 by rw [h1]; rfl)).trans <|
    (runs_stps (q' := (136, [.ref 1, .null], [.int 1, .int (w.1 1 8)], w)) 3 rfl).trans <|
    (runs_if_t (a := 152) (b := 139) (L := [.ref 1, .null]) (st := []) (w := w) rfl h2).trans <|
    (runs_stps (q' := (153, [.null, .null], [.int 0], w)) 1 rfl).trans <|
    runs_ret rfl
  · exact (runs_stps (q' := (4, [.ref 1, .ref 27], [.int (w.1 1 6)], w)) 2 rfl).trans <|
    (runs_sw (L := [.ref 1, .ref 27]) (st := []) (w := w) rfl (show tsel _ _ _ = 131 by rw [h1]; rfl)).trans <|
    (runs_stps (q' := (136, [.ref 1, .null], [.int 1, .int (w.1 1 8)], w)) 3 rfl).trans <|
    (runs_if_t (a := 152) (b := 139) (L := [.ref 1, .null]) (st := []) (w := w) rfl h2).trans <|
    (runs_stps (q' := (153, [.null, .null], [.int 0], w)) 1 rfl).trans <|
    runs_ret rfl
theorem p_X3_canBeNext_0S7FT_R {ex : Ex} {p : Nat} {w : Wd} (hp : scp p) (h1 : (w.1 1 6) = 7) (h2 : ¬ 1 ≤ (w.1 1 8)) (h3 : 9 < (w.1 1 5)) : runs (T_X3_canBeNext ex) (0, [.ref 1, .ref p], [], w) = some (some (.int 0), w) := by
  rcases hp with rfl | rfl
  · exact (runs_stps (q' := (4, [.ref 1, .ref 20], [.int (w.1 1 6)], w)) 2 rfl).trans <|
    (runs_sw (L := [.ref 1, .ref 20]) (st := []) (w := w) rfl (show tsel _ _ _ = 131 by rw [h1]; rfl)).trans <|
    (runs_stps (q' := (136, [.ref 1, .null], [.int 1, .int (w.1 1 8)], w)) 3 rfl).trans <|
    (runs_if_f (a := 152) (b := 139) (L := [.ref 1, .null]) (st := []) (w := w) rfl h2).trans <|
    (runs_stps (q' := (145, [.ref 1, .null], [.int 9, .int (w.1 1 5)], w)) 3 rfl).trans <|
    (runs_if_t (a := 152) (b := 148) (L := [.ref 1, .null]) (st := []) (w := w) rfl h3).trans <|
    (runs_stps (q' := (153, [.null, .null], [.int 0], w)) 1 rfl).trans <|
    runs_ret rfl
  · exact (runs_stps (q' := (4, [.ref 1, .ref 27], [.int (w.1 1 6)], w)) 2 rfl).trans <|
    (runs_sw (L := [.ref 1, .ref 27]) (st := []) (w := w) rfl (show tsel _ _ _ = 131 by rw [h1]; rfl)).trans <|
    (runs_stps (q' := (136, [.ref 1, .null], [.int 1, .int (w.1 1 8)], w)) 3 rfl).trans <|
    (runs_if_f (a := 152) (b := 139) (L := [.ref 1, .null]) (st := []) (w := w) rfl h2).trans <|
    (runs_stps (q' := (145, [.ref 1, .null], [.int 9, .int (w.1 1 5)], w)) 3 rfl).trans <|
    (runs_if_t (a := 152) (b := 148) (L := [.ref 1, .null]) (st := []) (w := w) rfl h3).trans <|
    (runs_stps (q' := (153, [.null, .null], [.int 0], w)) 1 rfl).trans <|
    runs_ret rfl
theorem p_X3_canBeNext_0S7FF_R {ex : Ex} {p : Nat} {w : Wd} (hp : scp p) (h1 : (w.1 1 6) = 7) (h2 : ¬ 1 ≤ (w.1 1 8)) (h3 : ¬ 9 < (w.1 1 5)) : runs (T_X3_canBeNext ex) (0, [.ref 1, .ref p], [], w) = some (some (.int 1), w) := by
  rcases hp with rfl | rfl
  · exact (runs_stps (q' := (4, [.ref 1, .ref 20], [.int (w.1 1 6)], w)) 2 rfl).trans <|
    (runs_sw (L := [.ref 1, .ref 20]) (st := []) (w := w) rfl (show tsel _ _ _ = 131 by rw [h1]; rfl)).trans <|
    (runs_stps (q' := (136, [.ref 1, .null], [.int 1, .int (w.1 1 8)], w)) 3 rfl).trans <|
    (runs_if_f (a := 152) (b := 139) (L := [.ref 1, .null]) (st := []) (w := w) rfl h2).trans <|
    (runs_stps (q' := (145, [.ref 1, .null], [.int 9, .int (w.1 1 5)], w)) 3 rfl).trans <|
    (runs_if_f (a := 152) (b := 148) (L := [.ref 1, .null]) (st := []) (w := w) rfl h3).trans <|
    (runs_stps (q' := (153, [.ref 1, .null], [.int 1], w)) 2 rfl).trans <|
    runs_ret rfl
  · exact (runs_stps (q' := (4, [.ref 1, .ref 27], [.int (w.1 1 6)], w)) 2 rfl).trans <|
    (runs_sw (L := [.ref 1, .ref 27]) (st := []) (w := w) rfl (show tsel _ _ _ = 131 by rw [h1]; rfl)).trans <|
    (runs_stps (q' := (136, [.ref 1, .null], [.int 1, .int (w.1 1 8)], w)) 3 rfl).trans <|
    (runs_if_f (a := 152) (b := 139) (L := [.ref 1, .null]) (st := []) (w := w) rfl h2).trans <|
    (runs_stps (q' := (145, [.ref 1, .null], [.int 9, .int (w.1 1 5)], w)) 3 rfl).trans <|
    (runs_if_f (a := 152) (b := 148) (L := [.ref 1, .null]) (st := []) (w := w) rfl h3).trans <|
    (runs_stps (q' := (153, [.ref 1, .null], [.int 1], w)) 2 rfl).trans <|
    runs_ret rfl
theorem p_X3_canBeNext_0S8T_R {ex : Ex} {p : Nat} {w : Wd} (hp : scp p) (h1 : (w.1 1 6) = 8) (h2 : 1 ≤ (w.1 1 8)) : runs (T_X3_canBeNext ex) (0, [.ref 1, .ref p], [], w) = some (some (.int 0), w) := by
  rcases hp with rfl | rfl
  · exact (runs_stps (q' := (4, [.ref 1, .ref 20], [.int (w.1 1 6)], w)) 2 rfl).trans <|
    (runs_sw (L := [.ref 1, .ref 20]) (st := []) (w := w) rfl (show tsel _ _ _ = 131 by rw [h1]; rfl)).trans <|
    (runs_stps (q' := (136, [.ref 1, .null], [.int 1, .int (w.1 1 8)], w)) 3 rfl).trans <|
    (runs_if_t (a := 152) (b := 139) (L := [.ref 1, .null]) (st := []) (w := w) rfl h2).trans <|
    (runs_stps (q' := (153, [.null, .null], [.int 0], w)) 1 rfl).trans <|
    runs_ret rfl
  · exact (runs_stps (q' := (4, [.ref 1, .ref 27], [.int (w.1 1 6)], w)) 2 rfl).trans <|
    (runs_sw (L := [.ref 1, .ref 27]) (st := []) (w := w) rfl (show tsel _ _ _ = 131 by rw [h1]; rfl)).trans <|
    (runs_stps (q' := (136, [.ref 1, .null], [.int 1, .int (w.1 1 8)], w)) 3 rfl).trans <|
    (runs_if_t (a := 152) (b := 139) (L := [.ref 1, .null]) (st := []) (w := w) rfl h2).trans <|
    (runs_stps (q' := (153, [.null, .null], [.int 0], w)) 1 rfl).trans <|
    runs_ret rfl
theorem p_X3_canBeNext_0S8FT_R {ex : Ex} {p : Nat} {w : Wd} (hp : scp p) (h1 : (w.1 1 6) = 8) (h2 : ¬ 1 ≤ (w.1 1 8)) (h3 : 9 < (w.1 1 5)) : runs (T_X3_canBeNext ex) (0, [.ref 1, .ref p], [], w) = some (some (.int 0), w) := by
  rcases hp with rfl | rfl
  · exact (runs_stps (q' := (4, [.ref 1, .ref 20], [.int (w.1 1 6)], w)) 2 rfl).trans <|
    (runs_sw (L := [.ref 1, .ref 20]) (st := []) (w := w) rfl (show tsel _ _ _ = 131 by rw [h1]; rfl)).trans <|
    (runs_stps (q' := (136, [.ref 1, .null], [.int 1, .int (w.1 1 8)], w)) 3 rfl).trans <|
    (runs_if_f (a := 152) (b := 139) (L := [.ref 1, .null]) (st := []) (w := w) rfl h2).trans <|
    (runs_stps (q' := (145, [.ref 1, .null], [.int 9, .int (w.1 1 5)], w)) 3 rfl).trans <|
    (runs_if_t (a := 152) (b := 148) (L := [.ref 1, .null]) (st := []) (w := w) rfl h3).trans <|
    (runs_stps (q' := (153, [.null, .null], [.int 0], w)) 1 rfl).trans <|
    runs_ret rfl
  · exact (runs_stps (q' := (4, [.ref 1, .ref 27], [.int (w.1 1 6)], w)) 2 rfl).trans <|
    (runs_sw (L := [.ref 1, .ref 27]) (st := []) (w := w) rfl (show tsel _ _ _ = 131 by rw [h1]; rfl)).trans <|
    (runs_stps (q' := (136, [.ref 1, .null], [.int 1, .int (w.1 1 8)], w)) 3 rfl).trans <|
    (runs_if_f (a := 152) (b := 139) (L := [.ref 1, .null]) (st := []) (w := w) rfl h2).trans <|
    (runs_stps (q' := (145, [.ref 1, .null], [.int 9, .int (w.1 1 5)], w)) 3 rfl).trans <|
    (runs_if_t (a := 152) (b := 148) (L := [.ref 1, .null]) (st := []) (w := w) rfl h3).trans <|
    (runs_stps (q' := (153, [.null, .null], [.int 0], w)) 1 rfl).trans <|
    runs_ret rfl
theorem p_X3_canBeNext_0S8FF_R {ex : Ex} {p : Nat} {w : Wd} (hp : scp p) (h1 : (w.1 1 6) = 8) (h2 : ¬ 1 ≤ (w.1 1 8)) (h3 : ¬ 9 < (w.1 1 5)) : runs (T_X3_canBeNext ex) (0, [.ref 1, .ref p], [], w) = some (some (.int 1), w) := by
  rcases hp with rfl | rfl
  · exact (runs_stps (q' := (4, [.ref 1, .ref 20], [.int (w.1 1 6)], w)) 2 rfl).trans <|
    (runs_sw (L := [.ref 1, .ref 20]) (st := []) (w := w) rfl (show tsel _ _ _ = 131 by rw [h1]; rfl)).trans <|
    (runs_stps (q' := (136, [.ref 1, .null], [.int 1, .int (w.1 1 8)], w)) 3 rfl).trans <|
    (runs_if_f (a := 152) (b := 139) (L := [.ref 1, .null]) (st := []) (w := w) rfl h2).trans <|
    (runs_stps (q' := (145, [.ref 1, .null], [.int 9, .int (w.1 1 5)], w)) 3 rfl).trans <|
    (runs_if_f (a := 152) (b := 148) (L := [.ref 1, .null]) (st := []) (w := w) rfl h3).trans <|
    (runs_stps (q' := (153, [.ref 1, .null], [.int 1], w)) 2 rfl).trans <|
    runs_ret rfl
  · exact (runs_stps (q' := (4, [.ref 1, .ref 27], [.int (w.1 1 6)], w)) 2 rfl).trans <|
    (runs_sw (L := [.ref 1, .ref 27]) (st := []) (w := w) rfl (show tsel _ _ _ = 131 by rw [h1]; rfl)).trans <|
    (runs_stps (q' := (136, [.ref 1, .null], [.int 1, .int (w.1 1 8)], w)) 3 rfl).trans <|
    (runs_if_f (a := 152) (b := 139) (L := [.ref 1, .null]) (st := []) (w := w) rfl h2).trans <|
    (runs_stps (q' := (145, [.ref 1, .null], [.int 9, .int (w.1 1 5)], w)) 3 rfl).trans <|
    (runs_if_f (a := 152) (b := 148) (L := [.ref 1, .null]) (st := []) (w := w) rfl h3).trans <|
    (runs_stps (q' := (153, [.ref 1, .null], [.int 1], w)) 2 rfl).trans <|
    runs_ret rfl
theorem p_X3_canBeNext_0S9T_R {ex : Ex} {p : Nat} {w : Wd} (hp : scp p) (h1 : (w.1 1 6) = 9) (h2 : 1 ≤ (w.1 1 8)) : runs (T_X3_canBeNext ex) (0, [.ref 1, .ref p], [], w) = some (some (.int 0), w) := by
  rcases hp with rfl | rfl
  · exact (runs_stps (q' := (4, [.ref 1, .ref 20], [.int (w.1 1 6)], w)) 2 rfl).trans <|
    (runs_sw (L := [.ref 1, .ref 20]) (st := []) (w := w) rfl (show tsel _ _ _ = 154 by rw [h1]; rfl)).trans <|
    (runs_stps (q' := (159, [.ref 1, .null], [.int 1, .int (w.1 1 8)], w)) 3 rfl).trans <|
    (runs_if_t (a := 182) (b := 162) (L := [.ref 1, .null]) (st := []) (w := w) rfl h2).trans <|
    (runs_stps (q' := (183, [.null, .null], [.int 0], w)) 1 rfl).trans <|
    runs_ret rfl
  · exact (runs_stps (q' := (4, [.ref 1, .ref 27], [.int (w.1 1 6)], w)) 2 rfl).trans <|
    (runs_sw (L := [.ref 1, .ref 27]) (st := []) (w := w) rfl (show tsel _ _ _ = 154 by rw [h1]; rfl)).trans <|
    (runs_stps (q' := (159, [.ref 1, .null], [.int 1, .int (w.1 1 8)], w)) 3 rfl).trans <|
    (runs_if_t (a := 182) (b := 162) (L := [.ref 1, .null]) (st := []) (w := w) rfl h2).trans <|
    (runs_stps (q' := (183, [.null, .null], [.int 0], w)) 1 rfl).trans <|
    runs_ret rfl
theorem p_X3_canBeNext_0S9FT_R {ex : Ex} {p : Nat} {w : Wd} (hp : scp p) (h1 : (w.1 1 6) = 9) (h2 : ¬ 1 ≤ (w.1 1 8)) (h3 : (w.1 1 5) < 1) : runs (T_X3_canBeNext ex) (0, [.ref 1, .ref p], [], w) = some (some (.int 0), w) := by
  rcases hp with rfl | rfl
  · exact (runs_stps (q' := (4, [.ref 1, .ref 20], [.int (w.1 1 6)], w)) 2 rfl).trans <|
    (runs_sw (L := [.ref 1, .ref 20]) (st := []) (w := w) rfl (show tsel _ _ _ = 154 by rw [h1]; rfl)).trans <|
    (runs_stps (q' := (159, [.ref 1, .null], [.int 1, .int (w.1 1 8)], w)) 3 rfl).trans <|
    (runs_if_f (a := 182) (b := 162) (L := [.ref 1, .null]) (st := []) (w := w) rfl h2).trans <|
    (runs_stps (q' := (167, [.ref 1, .null], [.int 1, .int (w.1 1 5)], w)) 3 rfl).trans <|
    (runs_if_t (a := 182) (b := 170) (L := [.ref 1, .null]) (st := []) (w := w) rfl h3).trans <|
    (runs_stps (q' := (183, [.null, .null], [.int 0], w)) 1 rfl).trans <|
    runs_ret rfl
  · exact (runs_stps (q' := (4, [.ref 1, .ref 27], [.int (w.1 1 6)], w)) 2 rfl).trans <|
    (runs_sw (L := [.ref 1, .ref 27]) (st := []) (w := w) rfl (show tsel _ _ _ = 154 by rw [h1]; rfl)).trans <|
    (runs_stps (q' := (159, [.ref 1, .null], [.int 1, .int (w.1 1 8)], w)) 3 rfl).trans <|
    (runs_if_f (a := 182) (b := 162) (L := [.ref 1, .null]) (st := []) (w := w) rfl h2).trans <|
    (runs_stps (q' := (167, [.ref 1, .null], [.int 1, .int (w.1 1 5)], w)) 3 rfl).trans <|
    (runs_if_t (a := 182) (b := 170) (L := [.ref 1, .null]) (st := []) (w := w) rfl h3).trans <|
    (runs_stps (q' := (183, [.null, .null], [.int 0], w)) 1 rfl).trans <|
    runs_ret rfl
theorem p_X3_canBeNext_0S9FFT_R {ex : Ex} {p : Nat} {w : Wd} (hp : scp p) (h1 : (w.1 1 6) = 9) (h2 : ¬ 1 ≤ (w.1 1 8)) (h3 : ¬ (w.1 1 5) < 1) (h4 : 5 < (w.1 1 5)) : runs (T_X3_canBeNext ex) (0, [.ref 1, .ref p], [], w) = some (some (.int 0), w) := by
  rcases hp with rfl | rfl
  · exact (runs_stps (q' := (4, [.ref 1, .ref 20], [.int (w.1 1 6)], w)) 2 rfl).trans <|
    (runs_sw (L := [.ref 1, .ref 20]) (st := []) (w := w) rfl (show tsel _ _ _ = 154 by rw [h1]; rfl)).trans <|
    (runs_stps (q' := (159, [.ref 1, .null], [.int 1, .int (w.1 1 8)], w)) 3 rfl).trans <|
    (runs_if_f (a := 182) (b := 162) (L := [.ref 1, .null]) (st := []) (w := w) rfl h2).trans <|
    (runs_stps (q' := (167, [.ref 1, .null], [.int 1, .int (w.1 1 5)], w)) 3 rfl).trans <|
    (runs_if_f (a := 182) (b := 170) (L := [.ref 1, .null]) (st := []) (w := w) rfl h3).trans <|
    (runs_stps (q' := (175, [.ref 1, .null], [.int 5, .int (w.1 1 5)], w)) 3 rfl).trans <|
    (runs_if_t (a := 182) (b := 178) (L := [.ref 1, .null]) (st := []) (w := w) rfl h4).trans <|
    (runs_stps (q' := (183, [.null, .null], [.int 0], w)) 1 rfl).trans <|
    runs_ret rfl
  · exact (runs_stps (q' := (4, [.ref 1, .ref 27], [.int (w.1 1 6)], w)) 2 rfl).trans <|
    (runs_sw (L := [.ref 1, .ref 27]) (st := []) (w := w) rfl (show tsel _ _ _ = 154 by rw [h1]; rfl)).trans <|
    (runs_stps (q' := (159, [.ref 1, .null], [.int 1, .int (w.1 1 8)], w)) 3 rfl).trans <|
    (runs_if_f (a := 182) (b := 162) (L := [.ref 1, .null]) (st := []) (w := w) rfl h2).trans <|
    (runs_stps (q' := (167, [.ref 1, .null], [.int 1, .int (w.1 1 5)], w)) 3 rfl).trans <|
    (runs_if_f (a := 182) (b := 170) (L := [.ref 1, .null]) (st := []) (w := w) rfl h3).trans <|
    (runs_stps (q' := (175, [.ref 1, .null], [.int 5, .int (w.1 1 5)], w)) 3 rfl).trans <|
    (runs_if_t (a := 182) (b := 178) (L := [.ref 1, .null]) (st := []) (w := w) rfl h4).trans <|
    (runs_stps (q' := (183, [.null, .null], [.int 0], w)) 1 rfl).trans <|
    runs_ret rfl
theorem p_X3_canBeNext_0S9FFF_R {ex : Ex} {p : Nat} {w : Wd} (hp : scp p) (h1 : (w.1 1 6) = 9) (h2 : ¬ 1 ≤ (w.1 1 8)) (h3 : ¬ (w.1 1 5) < 1) (h4 : ¬ 5 < (w.1 1 5)) : runs (T_X3_canBeNext ex) (0, [.ref 1, .ref p], [], w) = some (some (.int 1), w) := by
  rcases hp with rfl | rfl
  · exact (runs_stps (q' := (4, [.ref 1, .ref 20], [.int (w.1 1 6)], w)) 2 rfl).trans <|
    (runs_sw (L := [.ref 1, .ref 20]) (st := []) (w := w) rfl (show tsel _ _ _ = 154 by rw [h1]; rfl)).trans <|
    (runs_stps (q' := (159, [.ref 1, .null], [.int 1, .int (w.1 1 8)], w)) 3 rfl).trans <|
    (runs_if_f (a := 182) (b := 162) (L := [.ref 1, .null]) (st := []) (w := w) rfl h2).trans <|
    (runs_stps (q' := (167, [.ref 1, .null], [.int 1, .int (w.1 1 5)], w)) 3 rfl).trans <|
    (runs_if_f (a := 182) (b := 170) (L := [.ref 1, .null]) (st := []) (w := w) rfl h3).trans <|
    (runs_stps (q' := (175, [.ref 1, .null], [.int 5, .int (w.1 1 5)], w)) 3 rfl).trans <|
    (runs_if_f (a := 182) (b := 178) (L := [.ref 1, .null]) (st := []) (w := w) rfl h4).trans <|
    (runs_stps (q' := (183, [.ref 1, .null], [.int 1], w)) 2 rfl).trans <|
    runs_ret rfl
  · exact (runs_stps (q' := (4, [.ref 1, .ref 27], [.int (w.1 1 6)], w)) 2 rfl).trans <|
    (runs_sw (L := [.ref 1, .ref 27]) (st := []) (w := w) rfl (show tsel _ _ _ = 154 by rw [h1]; rfl)).trans <|
    (runs_stps (q' := (159, [.ref 1, .null], [.int 1, .int (w.1 1 8)], w)) 3 rfl).trans <|
    (runs_if_f (a := 182) (b := 162) (L := [.ref 1, .null]) (st := []) (w := w) rfl h2).trans <|
    (runs_stps (q' := (167, [.ref 1, .null], [.int 1, .int (w.1 1 5)], w)) 3 rfl).trans <|
    (runs_if_f (a := 182) (b := 170) (L := [.ref 1, .null]) (st := []) (w := w) rfl h3).trans <|
    (runs_stps (q' := (175, [.ref 1, .null], [.int 5, .int (w.1 1 5)], w)) 3 rfl).trans <|
    (runs_if_f (a := 182) (b := 178) (L := [.ref 1, .null]) (st := []) (w := w) rfl h4).trans <|
    (runs_stps (q' := (183, [.ref 1, .null], [.int 1], w)) 2 rfl).trans <|
    runs_ret rfl
theorem p_X3_canBeNext_0Sd_R {ex : Ex} {p : Nat} {w : Wd} (hp : scp p) (h1 : ¬ (w.1 1 6) = 4) (h2 : ¬ (w.1 1 6) = 5) (h3 : ¬ (w.1 1 6) = 6) (h4 : ¬ (w.1 1 6) = 7) (h5 : ¬ (w.1 1 6) = 8) (h6 : ¬ (w.1 1 6) = 9) : runs (T_X3_canBeNext ex) (0, [.ref 1, .ref p], [], w) = some (some (.int 0), w) := by
  rcases hp with rfl | rfl
  · exact (runs_stps (q' := (4, [.ref 1, .ref 20], [.int (w.1 1 6)], w)) 2 rfl).trans <|
    (runs_sw (L := [.ref 1, .ref 20]) (st := []) (w := w) rfl (show tsel _ _ _ = 184 by simp only [tsel, h1, h2, h3, h4, h5, h6, if_false])).trans <|
    (runs_stps (q' := (185, [.null, .null], [.int 0], w)) 1 rfl).trans <|
    runs_ret rfl
  · exact (runs_stps (q' := (4, [.ref 1, .ref 27], [.int (w.1 1 6)], w)) 2 rfl).trans <|
    (runs_sw (L := [.ref 1, .ref 27]) (st := []) (w := w) rfl (show tsel _ _ _ = 184 by simp only [tsel, h1, h2, h3, h4, h5, h6, if_false])).trans <|
    (runs_stps (q' := (185, [.null, .null], [.int 0], w)) 1 rfl).trans <|
    runs_ret rfl
theorem p_X3_closesItem_0TT_R {ex : Ex} {p : Nat} {w : Wd} (hp : scp p) (h1 : (w.1 1 6) = 5) (h2 : (w.1 1 6) = 0) : runs (T_X3_closesItem ex) (0, [.ref 1, .ref p, .null], [], w) = some (some (.int 0), w) := by
  rcases hp with rfl | rfl
  · exact (runs_stps (q' := (5, [.ref 1, .ref 20, .null], [.int 5, .int (w.1 1 6)], w)) 3 rfl).trans <|
    (runs_if_t (a := 28) (b := 8) (L := [.ref 1, .ref 20, .null]) (st := []) (w := w) rfl h1).trans <|
    (runs_stps (q' := (38, [.ref 1, .ref 20, .int 1], [.int (w.1 1 6)], w)) 5 rfl).trans <|
    (runs_if_t (a := 45) (b := 41) (L := [.ref 1, .ref 20, .int 1]) (st := []) (w := w) rfl h2).trans <|
    (runs_stps (q' := (46, [.null, .null, .null], [.int 0], w)) 1 rfl).trans <|
    runs_ret rfl
  · exact (runs_stps (q' := (5, [.ref 1, .ref 27, .null], [.int 5, .int (w.1 1 6)], w)) 3 rfl).trans <|
    (runs_if_t (a := 28) (b := 8) (L := [.ref 1, .ref 27, .null]) (st := []) (w := w) rfl h1).trans <|
    (runs_stps (q' := (38, [.ref 1, .ref 27, .int 1], [.int (w.1 1 6)], w)) 5 rfl).trans <|
    (runs_if_t (a := 45) (b := 41) (L := [.ref 1, .ref 27, .int 1]) (st := []) (w := w) rfl h2).trans <|
    (runs_stps (q' := (46, [.null, .null, .null], [.int 0], w)) 1 rfl).trans <|
    runs_ret rfl
theorem p_X3_closesItem_0TFT_R {ex : Ex} {p : Nat} {w1 : Wd} {w : Wd} (hp : scp p) (h1 : (w.1 1 6) = 5) (h2 : ¬ (w.1 1 6) = 0) (h3 : ¬ (1 : Int32) = 0) (h4 : ex 30 [.ref 1, .ref p] w = some (none, w1)) : runs (T_X3_closesItem ex) (0, [.ref 1, .ref p, .null], [], w) = some (some (.int 1), updI (updI w1 1 6 0) 1 9 ((w1.1 1 9) + 1)) := by
  rcases hp with rfl | rfl
  · exact (runs_stps (q' := (5, [.ref 1, .ref 20, .null], [.int 5, .int (w.1 1 6)], w)) 3 rfl).trans <|
    (runs_if_t (a := 28) (b := 8) (L := [.ref 1, .ref 20, .null]) (st := []) (w := w) rfl h1).trans <|
    (runs_stps (q' := (38, [.ref 1, .ref 20, .int 1], [.int (w.1 1 6)], w)) 5 rfl).trans <|
    (runs_if_f (a := 45) (b := 41) (L := [.ref 1, .ref 20, .int 1]) (st := []) (w := w) rfl h2).trans <|
    (runs_stps (q' := (42, [.ref 1, .ref 20, .int 1], [.int 1], w)) 1 rfl).trans <|
    (runs_if_f (a := 45) (b := 47) (L := [.ref 1, .ref 20, .int 1]) (st := []) (w := w) rfl h3).trans <|
    (runs_stps (q' := (49, [.ref 1, .ref 20, .null], [.ref 20, .ref 1], w)) 2 rfl).trans <|
    (runs_callV (rv := none) (w' := w1) rfl rfl rfl rfl h4).trans <|
    (runs_stps (q' := (68, [.ref 1, .ref 20, .null], [.int 1], updI (updI w1 1 6 0) 1 9 ((w1.1 1 9) + 1))) 10 rfl).trans <|
    runs_ret rfl
  · exact (runs_stps (q' := (5, [.ref 1, .ref 27, .null], [.int 5, .int (w.1 1 6)], w)) 3 rfl).trans <|
    (runs_if_t (a := 28) (b := 8) (L := [.ref 1, .ref 27, .null]) (st := []) (w := w) rfl h1).trans <|
    (runs_stps (q' := (38, [.ref 1, .ref 27, .int 1], [.int (w.1 1 6)], w)) 5 rfl).trans <|
    (runs_if_f (a := 45) (b := 41) (L := [.ref 1, .ref 27, .int 1]) (st := []) (w := w) rfl h2).trans <|
    (runs_stps (q' := (42, [.ref 1, .ref 27, .int 1], [.int 1], w)) 1 rfl).trans <|
    (runs_if_f (a := 45) (b := 47) (L := [.ref 1, .ref 27, .int 1]) (st := []) (w := w) rfl h3).trans <|
    (runs_stps (q' := (49, [.ref 1, .ref 27, .null], [.ref 27, .ref 1], w)) 2 rfl).trans <|
    (runs_callV (rv := none) (w' := w1) rfl rfl rfl rfl h4).trans <|
    (runs_stps (q' := (68, [.ref 1, .ref 27, .null], [.int 1], updI (updI w1 1 6 0) 1 9 ((w1.1 1 9) + 1))) 10 rfl).trans <|
    runs_ret rfl
theorem p_X3_closesItem_0TFF_R {ex : Ex} {p : Nat} {w : Wd} (hp : scp p) (h1 : (w.1 1 6) = 5) (h2 : ¬ (w.1 1 6) = 0) (h3 : (1 : Int32) = 0) : runs (T_X3_closesItem ex) (0, [.ref 1, .ref p, .null], [], w) = some (some (.int 0), w) := by
  rcases hp with rfl | rfl
  · exact (runs_stps (q' := (5, [.ref 1, .ref 20, .null], [.int 5, .int (w.1 1 6)], w)) 3 rfl).trans <|
    (runs_if_t (a := 28) (b := 8) (L := [.ref 1, .ref 20, .null]) (st := []) (w := w) rfl h1).trans <|
    (runs_stps (q' := (38, [.ref 1, .ref 20, .int 1], [.int (w.1 1 6)], w)) 5 rfl).trans <|
    (runs_if_f (a := 45) (b := 41) (L := [.ref 1, .ref 20, .int 1]) (st := []) (w := w) rfl h2).trans <|
    (runs_stps (q' := (42, [.ref 1, .ref 20, .int 1], [.int 1], w)) 1 rfl).trans <|
    (runs_if_t (a := 45) (b := 47) (L := [.ref 1, .ref 20, .int 1]) (st := []) (w := w) rfl h3).trans <|
    (runs_stps (q' := (46, [.null, .null, .null], [.int 0], w)) 1 rfl).trans <|
    runs_ret rfl
  · exact (runs_stps (q' := (5, [.ref 1, .ref 27, .null], [.int 5, .int (w.1 1 6)], w)) 3 rfl).trans <|
    (runs_if_t (a := 28) (b := 8) (L := [.ref 1, .ref 27, .null]) (st := []) (w := w) rfl h1).trans <|
    (runs_stps (q' := (38, [.ref 1, .ref 27, .int 1], [.int (w.1 1 6)], w)) 5 rfl).trans <|
    (runs_if_f (a := 45) (b := 41) (L := [.ref 1, .ref 27, .int 1]) (st := []) (w := w) rfl h2).trans <|
    (runs_stps (q' := (42, [.ref 1, .ref 27, .int 1], [.int 1], w)) 1 rfl).trans <|
    (runs_if_t (a := 45) (b := 47) (L := [.ref 1, .ref 27, .int 1]) (st := []) (w := w) rfl h3).trans <|
    (runs_stps (q' := (46, [.null, .null, .null], [.int 0], w)) 1 rfl).trans <|
    runs_ret rfl
theorem p_X3_closesItem_0FTTT_R {ex : Ex} {p : Nat} {w : Wd} (hp : scp p) (h1 : ¬ (w.1 1 6) = 5) (h2 : ¬ (w.1 1 6) = 4) (h3 : ¬ (w.1 1 8) = 1) (h4 : (w.1 1 6) = 0) : runs (T_X3_closesItem ex) (0, [.ref 1, .ref p, .null], [], w) = some (some (.int 0), w) := by
  rcases hp with rfl | rfl
  · exact (runs_stps (q' := (5, [.ref 1, .ref 20, .null], [.int 5, .int (w.1 1 6)], w)) 3 rfl).trans <|
    (runs_if_f (a := 28) (b := 8) (L := [.ref 1, .ref 20, .null]) (st := []) (w := w) rfl h1).trans <|
    (runs_stps (q' := (17, [.ref 1, .ref 20, .null], [.int 4, .int (w.1 1 6), .int (w.1 1 8)], w)) 5 rfl).trans <|
    (runs_if_f (a := 20) (b := 24) (L := [.ref 1, .ref 20, .null]) (st := [.int (w.1 1 8)]) (w := w) rfl h2).trans <|
    (runs_stps (q' := (25, [.ref 1, .ref 20, .null], [.int 1, .int (w.1 1 8)], w)) 1 rfl).trans <|
    (runs_if_f (a := 28) (b := 32) (L := [.ref 1, .ref 20, .null]) (st := []) (w := w) rfl h3).trans <|
    (runs_stps (q' := (38, [.ref 1, .ref 20, .int 0], [.int (w.1 1 6)], w)) 4 rfl).trans <|
    (runs_if_t (a := 45) (b := 41) (L := [.ref 1, .ref 20, .int 0]) (st := []) (w := w) rfl h4).trans <|
    (runs_stps (q' := (46, [.null, .null, .null], [.int 0], w)) 1 rfl).trans <|
    runs_ret rfl
  · exact (runs_stps (q' := (5, [.ref 1, .ref 27, .null], [.int 5, .int (w.1 1 6)], w)) 3 rfl).trans <|
    (runs_if_f (a := 28) (b := 8) (L := [.ref 1, .ref 27, .null]) (st := []) (w := w) rfl h1).trans <|
    (runs_stps (q' := (17, [.ref 1, .ref 27, .null], [.int 4, .int (w.1 1 6), .int (w.1 1 8)], w)) 5 rfl).trans <|
    (runs_if_f (a := 20) (b := 24) (L := [.ref 1, .ref 27, .null]) (st := [.int (w.1 1 8)]) (w := w) rfl h2).trans <|
    (runs_stps (q' := (25, [.ref 1, .ref 27, .null], [.int 1, .int (w.1 1 8)], w)) 1 rfl).trans <|
    (runs_if_f (a := 28) (b := 32) (L := [.ref 1, .ref 27, .null]) (st := []) (w := w) rfl h3).trans <|
    (runs_stps (q' := (38, [.ref 1, .ref 27, .int 0], [.int (w.1 1 6)], w)) 4 rfl).trans <|
    (runs_if_t (a := 45) (b := 41) (L := [.ref 1, .ref 27, .int 0]) (st := []) (w := w) rfl h4).trans <|
    (runs_stps (q' := (46, [.null, .null, .null], [.int 0], w)) 1 rfl).trans <|
    runs_ret rfl
theorem p_X3_closesItem_0FTTFT_R {ex : Ex} {p : Nat} {w1 : Wd} {w : Wd} (hp : scp p) (h1 : ¬ (w.1 1 6) = 5) (h2 : ¬ (w.1 1 6) = 4) (h3 : ¬ (w.1 1 8) = 1) (h4 : ¬ (w.1 1 6) = 0) (h5 : ¬ (0 : Int32) = 0) (h6 : ex 30 [.ref 1, .ref p] w = some (none, w1)) : runs (T_X3_closesItem ex) (0, [.ref 1, .ref p, .null], [], w) = some (some (.int 1), updI (updI w1 1 6 0) 1 9 ((w1.1 1 9) + 1)) := by
  rcases hp with rfl | rfl
  · exact (runs_stps (q' := (5, [.ref 1, .ref 20, .null], [.int 5, .int (w.1 1 6)], w)) 3 rfl).trans <|
    (runs_if_f (a := 28) (b := 8) (L := [.ref 1, .ref 20, .null]) (st := []) (w := w) rfl h1).trans <|
    (runs_stps (q' := (17, [.ref 1, .ref 20, .null], [.int 4, .int (w.1 1 6), .int (w.1 1 8)], w)) 5 rfl).trans <|
    (runs_if_f (a := 20) (b := 24) (L := [.ref 1, .ref 20, .null]) (st := [.int (w.1 1 8)]) (w := w) rfl h2).trans <|
    (runs_stps (q' := (25, [.ref 1, .ref 20, .null], [.int 1, .int (w.1 1 8)], w)) 1 rfl).trans <|
    (runs_if_f (a := 28) (b := 32) (L := [.ref 1, .ref 20, .null]) (st := []) (w := w) rfl h3).trans <|
    (runs_stps (q' := (38, [.ref 1, .ref 20, .int 0], [.int (w.1 1 6)], w)) 4 rfl).trans <|
    (runs_if_f (a := 45) (b := 41) (L := [.ref 1, .ref 20, .int 0]) (st := []) (w := w) rfl h4).trans <|
    (runs_stps (q' := (42, [.ref 1, .ref 20, .int 0], [.int 0], w)) 1 rfl).trans <|
    (runs_if_f (a := 45) (b := 47) (L := [.ref 1, .ref 20, .int 0]) (st := []) (w := w) rfl h5).trans <|
    (runs_stps (q' := (49, [.ref 1, .ref 20, .null], [.ref 20, .ref 1], w)) 2 rfl).trans <|
    (runs_callV (rv := none) (w' := w1) rfl rfl rfl rfl h6).trans <|
    (runs_stps (q' := (68, [.ref 1, .ref 20, .null], [.int 1], updI (updI w1 1 6 0) 1 9 ((w1.1 1 9) + 1))) 10 rfl).trans <|
    runs_ret rfl
  · exact (runs_stps (q' := (5, [.ref 1, .ref 27, .null], [.int 5, .int (w.1 1 6)], w)) 3 rfl).trans <|
    (runs_if_f (a := 28) (b := 8) (L := [.ref 1, .ref 27, .null]) (st := []) (w := w) rfl h1).trans <|
    (runs_stps (q' := (17, [.ref 1, .ref 27, .null], [.int 4, .int (w.1 1 6), .int (w.1 1 8)], w)) 5 rfl).trans <|
    (runs_if_f (a := 20) (b := 24) (L := [.ref 1, .ref 27, .null]) (st := [.int (w.1 1 8)]) (w := w) rfl h2).trans <|
    (runs_stps (q' := (25, [.ref 1, .ref 27, .null], [.int 1, .int (w.1 1 8)], w)) 1 rfl).trans <|
    (runs_if_f (a := 28) (b := 32) (L := [.ref 1, .ref 27, .null]) (st := []) (w := w) rfl h3).trans <|
    (runs_stps (q' := (38, [.ref 1, .ref 27, .int 0], [.int (w.1 1 6)], w)) 4 rfl).trans <|
    (runs_if_f (a := 45) (b := 41) (L := [.ref 1, .ref 27, .int 0]) (st := []) (w := w) rfl h4).trans <|
    (runs_stps (q' := (42, [.ref 1, .ref 27, .int 0], [.int 0], w)) 1 rfl).trans <|
    (runs_if_f (a := 45) (b := 47) (L := [.ref 1, .ref 27, .int 0]) (st := []) (w := w) rfl h5).trans <|
    (runs_stps (q' := (49, [.ref 1, .ref 27, .null], [.ref 27, .ref 1], w)) 2 rfl).trans <|
    (runs_callV (rv := none) (w' := w1) rfl rfl rfl rfl h6).trans <|
    (runs_stps (q' := (68, [.ref 1, .ref 27, .null], [.int 1], updI (updI w1 1 6 0) 1 9 ((w1.1 1 9) + 1))) 10 rfl).trans <|
    runs_ret rfl
theorem p_X3_closesItem_0FTTFF_R {ex : Ex} {p : Nat} {w : Wd} (hp : scp p) (h1 : ¬ (w.1 1 6) = 5) (h2 : ¬ (w.1 1 6) = 4) (h3 : ¬ (w.1 1 8) = 1) (h4 : ¬ (w.1 1 6) = 0) (h5 : (0 : Int32) = 0) : runs (T_X3_closesItem ex) (0, [.ref 1, .ref p, .null], [], w) = some (some (.int 0), w) := by
  rcases hp with rfl | rfl
  · exact (runs_stps (q' := (5, [.ref 1, .ref 20, .null], [.int 5, .int (w.1 1 6)], w)) 3 rfl).trans <|
    (runs_if_f (a := 28) (b := 8) (L := [.ref 1, .ref 20, .null]) (st := []) (w := w) rfl h1).trans <|
    (runs_stps (q' := (17, [.ref 1, .ref 20, .null], [.int 4, .int (w.1 1 6), .int (w.1 1 8)], w)) 5 rfl).trans <|
    (runs_if_f (a := 20) (b := 24) (L := [.ref 1, .ref 20, .null]) (st := [.int (w.1 1 8)]) (w := w) rfl h2).trans <|
    (runs_stps (q' := (25, [.ref 1, .ref 20, .null], [.int 1, .int (w.1 1 8)], w)) 1 rfl).trans <|
    (runs_if_f (a := 28) (b := 32) (L := [.ref 1, .ref 20, .null]) (st := []) (w := w) rfl h3).trans <|
    (runs_stps (q' := (38, [.ref 1, .ref 20, .int 0], [.int (w.1 1 6)], w)) 4 rfl).trans <|
    (runs_if_f (a := 45) (b := 41) (L := [.ref 1, .ref 20, .int 0]) (st := []) (w := w) rfl h4).trans <|
    (runs_stps (q' := (42, [.ref 1, .ref 20, .int 0], [.int 0], w)) 1 rfl).trans <|
    (runs_if_t (a := 45) (b := 47) (L := [.ref 1, .ref 20, .int 0]) (st := []) (w := w) rfl h5).trans <|
    (runs_stps (q' := (46, [.null, .null, .null], [.int 0], w)) 1 rfl).trans <|
    runs_ret rfl
  · exact (runs_stps (q' := (5, [.ref 1, .ref 27, .null], [.int 5, .int (w.1 1 6)], w)) 3 rfl).trans <|
    (runs_if_f (a := 28) (b := 8) (L := [.ref 1, .ref 27, .null]) (st := []) (w := w) rfl h1).trans <|
    (runs_stps (q' := (17, [.ref 1, .ref 27, .null], [.int 4, .int (w.1 1 6), .int (w.1 1 8)], w)) 5 rfl).trans <|
    (runs_if_f (a := 20) (b := 24) (L := [.ref 1, .ref 27, .null]) (st := [.int (w.1 1 8)]) (w := w) rfl h2).trans <|
    (runs_stps (q' := (25, [.ref 1, .ref 27, .null], [.int 1, .int (w.1 1 8)], w)) 1 rfl).trans <|
    (runs_if_f (a := 28) (b := 32) (L := [.ref 1, .ref 27, .null]) (st := []) (w := w) rfl h3).trans <|
    (runs_stps (q' := (38, [.ref 1, .ref 27, .int 0], [.int (w.1 1 6)], w)) 4 rfl).trans <|
    (runs_if_f (a := 45) (b := 41) (L := [.ref 1, .ref 27, .int 0]) (st := []) (w := w) rfl h4).trans <|
    (runs_stps (q' := (42, [.ref 1, .ref 27, .int 0], [.int 0], w)) 1 rfl).trans <|
    (runs_if_t (a := 45) (b := 47) (L := [.ref 1, .ref 27, .int 0]) (st := []) (w := w) rfl h5).trans <|
    (runs_stps (q' := (46, [.null, .null, .null], [.int 0], w)) 1 rfl).trans <|
    runs_ret rfl
theorem p_X3_closesItem_0FTFT_R {ex : Ex} {p : Nat} {w : Wd} (hp : scp p) (h1 : ¬ (w.1 1 6) = 5) (h2 : ¬ (w.1 1 6) = 4) (h3 : (w.1 1 8) = 1) (h4 : (w.1 1 6) = 0) : runs (T_X3_closesItem ex) (0, [.ref 1, .ref p, .null], [], w) = some (some (.int 0), w) := by
  rcases hp with rfl | rfl
  · exact (runs_stps (q' := (5, [.ref 1, .ref 20, .null], [.int 5, .int (w.1 1 6)], w)) 3 rfl).trans <|
    (runs_if_f (a := 28) (b := 8) (L := [.ref 1, .ref 20, .null]) (st := []) (w := w) rfl h1).trans <|
    (runs_stps (q' := (17, [.ref 1, .ref 20, .null], [.int 4, .int (w.1 1 6), .int (w.1 1 8)], w)) 5 rfl).trans <|
    (runs_if_f (a := 20) (b := 24) (L := [.ref 1, .ref 20, .null]) (st := [.int (w.1 1 8)]) (w := w) rfl h2).trans <|
    (runs_stps (q' := (25, [.ref 1, .ref 20, .null], [.int 1, .int (w.1 1 8)], w)) 1 rfl).trans <|
    (runs_if_t (a := 28) (b := 32) (L := [.ref 1, .ref 20, .null]) (st := []) (w := w) rfl h3).trans <|
    (runs_stps (q' := (38, [.ref 1, .ref 20, .int 1], [.int (w.1 1 6)], w)) 5 rfl).trans <|
    (runs_if_t (a := 45) (b := 41) (L := [.ref 1, .ref 20, .int 1]) (st := []) (w := w) rfl h4).trans <|
    (runs_stps (q' := (46, [.null, .null, .null], [.int 0], w)) 1 rfl).trans <|
    runs_ret rfl
  · exact (runs_stps (q' := (5, [.ref 1, .ref 27, .null], [.int 5, .int (w.1 1 6)], w)) 3 rfl).trans <|
    (runs_if_f (a := 28) (b := 8) (L := [.ref 1, .ref 27, .null]) (st := []) (w := w) rfl h1).trans <|
    (runs_stps (q' := (17, [.ref 1, .ref 27, .null], [.int 4, .int (w.1 1 6), .int (w.1 1 8)], w)) 5 rfl).trans <|
    (runs_if_f (a := 20) (b := 24) (L := [.ref 1, .ref 27, .null]) (st := [.int (w.1 1 8)]) (w := w) rfl h2).trans <|
    (runs_stps (q' := (25, [.ref 1, .ref 27, .null], [.int 1, .int (w.1 1 8)], w)) 1 rfl).trans <|
    (runs_if_t (a := 28) (b := 32) (L := [.ref 1, .ref 27, .null]) (st := []) (w := w) rfl h3).trans <|
    (runs_stps (q' := (38, [.ref 1, .ref 27, .int 1], [.int (w.1 1 6)], w)) 5 rfl).trans <|
    (runs_if_t (a := 45) (b := 41) (L := [.ref 1, .ref 27, .int 1]) (st := []) (w := w) rfl h4).trans <|
    (runs_stps (q' := (46, [.null, .null, .null], [.int 0], w)) 1 rfl).trans <|
    runs_ret rfl
theorem p_X3_closesItem_0FTFFT_R {ex : Ex} {p : Nat} {w1 : Wd} {w : Wd} (hp : scp p) (h1 : ¬ (w.1 1 6) = 5) (h2 : ¬ (w.1 1 6) = 4) (h3 : (w.1 1 8) = 1) (h4 : ¬ (w.1 1 6) = 0) (h5 : ¬ (1 : Int32) = 0) (h6 : ex 30 [.ref 1, .ref p] w = some (none, w1)) : runs (T_X3_closesItem ex) (0, [.ref 1, .ref p, .null], [], w) = some (some (.int 1), updI (updI w1 1 6 0) 1 9 ((w1.1 1 9) + 1)) := by
  rcases hp with rfl | rfl
  · exact (runs_stps (q' := (5, [.ref 1, .ref 20, .null], [.int 5, .int (w.1 1 6)], w)) 3 rfl).trans <|
    (runs_if_f (a := 28) (b := 8) (L := [.ref 1, .ref 20, .null]) (st := []) (w := w) rfl h1).trans <|
    (runs_stps (q' := (17, [.ref 1, .ref 20, .null], [.int 4, .int (w.1 1 6), .int (w.1 1 8)], w)) 5 rfl).trans <|
    (runs_if_f (a := 20) (b := 24) (L := [.ref 1, .ref 20, .null]) (st := [.int (w.1 1 8)]) (w := w) rfl h2).trans <|
    (runs_stps (q' := (25, [.ref 1, .ref 20, .null], [.int 1, .int (w.1 1 8)], w)) 1 rfl).trans <|
    (runs_if_t (a := 28) (b := 32) (L := [.ref 1, .ref 20, .null]) (st := []) (w := w) rfl h3).trans <|
    (runs_stps (q' := (38, [.ref 1, .ref 20, .int 1], [.int (w.1 1 6)], w)) 5 rfl).trans <|
    (runs_if_f (a := 45) (b := 41) (L := [.ref 1, .ref 20, .int 1]) (st := []) (w := w) rfl h4).trans <|
    (runs_stps (q' := (42, [.ref 1, .ref 20, .int 1], [.int 1], w)) 1 rfl).trans <|
    (runs_if_f (a := 45) (b := 47) (L := [.ref 1, .ref 20, .int 1]) (st := []) (w := w) rfl h5).trans <|
    (runs_stps (q' := (49, [.ref 1, .ref 20, .null], [.ref 20, .ref 1], w)) 2 rfl).trans <|
    (runs_callV (rv := none) (w' := w1) rfl rfl rfl rfl h6).trans <|
    (runs_stps (q' := (68, [.ref 1, .ref 20, .null], [.int 1], updI (updI w1 1 6 0) 1 9 ((w1.1 1 9) + 1))) 10 rfl).trans <|
    runs_ret rfl
  · exact (runs_stps (q' := (5, [.ref 1, .ref 27, .null], [.int 5, .int (w.1 1 6)], w)) 3 rfl).trans <|
    (runs_if_f (a := 28) (b := 8) (L := [.ref 1, .ref 27, .null]) (st := []) (w := w) rfl h1).trans <|
    (runs_stps (q' := (17, [.ref 1, .ref 27, .null], [.int 4, .int (w.1 1 6), .int (w.1 1 8)], w)) 5 rfl).trans <|
    (runs_if_f (a := 20) (b := 24) (L := [.ref 1, .ref 27, .null]) (st := [.int (w.1 1 8)]) (w := w) rfl h2).trans <|
    (runs_stps (q' := (25, [.ref 1, .ref 27, .null], [.int 1, .int (w.1 1 8)], w)) 1 rfl).trans <|
    (runs_if_t (a := 28) (b := 32) (L := [.ref 1, .ref 27, .null]) (st := []) (w := w) rfl h3).trans <|
    (runs_stps (q' := (38, [.ref 1, .ref 27, .int 1], [.int (w.1 1 6)], w)) 5 rfl).trans <|
    (runs_if_f (a := 45) (b := 41) (L := [.ref 1, .ref 27, .int 1]) (st := []) (w := w) rfl h4).trans <|
    (runs_stps (q' := (42, [.ref 1, .ref 27, .int 1], [.int 1], w)) 1 rfl).trans <|
    (runs_if_f (a := 45) (b := 47) (L := [.ref 1, .ref 27, .int 1]) (st := []) (w := w) rfl h5).trans <|
    (runs_stps (q' := (49, [.ref 1, .ref 27, .null], [.ref 27, .ref 1], w)) 2 rfl).trans <|
    (runs_callV (rv := none) (w' := w1) rfl rfl rfl rfl h6).trans <|
    (runs_stps (q' := (68, [.ref 1, .ref 27, .null], [.int 1], updI (updI w1 1 6 0) 1 9 ((w1.1 1 9) + 1))) 10 rfl).trans <|
    runs_ret rfl
theorem p_X3_closesItem_0FTFFF_R {ex : Ex} {p : Nat} {w : Wd} (hp : scp p) (h1 : ¬ (w.1 1 6) = 5) (h2 : ¬ (w.1 1 6) = 4) (h3 : (w.1 1 8) = 1) (h4 : ¬ (w.1 1 6) = 0) (h5 : (1 : Int32) = 0) : runs (T_X3_closesItem ex) (0, [.ref 1, .ref p, .null], [], w) = some (some (.int 0), w) := by
  rcases hp with rfl | rfl
  · exact (runs_stps (q' := (5, [.ref 1, .ref 20, .null], [.int 5, .int (w.1 1 6)], w)) 3 rfl).trans <|
    (runs_if_f (a := 28) (b := 8) (L := [.ref 1, .ref 20, .null]) (st := []) (w := w) rfl h1).trans <|
    (runs_stps (q' := (17, [.ref 1, .ref 20, .null], [.int 4, .int (w.1 1 6), .int (w.1 1 8)], w)) 5 rfl).trans <|
    (runs_if_f (a := 20) (b := 24) (L := [.ref 1, .ref 20, .null]) (st := [.int (w.1 1 8)]) (w := w) rfl h2).trans <|
    (runs_stps (q' := (25, [.ref 1, .ref 20, .null], [.int 1, .int (w.1 1 8)], w)) 1 rfl).trans <|
    (runs_if_t (a := 28) (b := 32) (L := [.ref 1, .ref 20, .null]) (st := []) (w := w) rfl h3).trans <|
    (runs_stps (q' := (38, [.ref 1, .ref 20, .int 1], [.int (w.1 1 6)], w)) 5 rfl).trans <|
    (runs_if_f (a := 45) (b := 41) (L := [.ref 1, .ref 20, .int 1]) (st := []) (w := w) rfl h4).trans <|
    (runs_stps (q' := (42, [.ref 1, .ref 20, .int 1], [.int 1], w)) 1 rfl).trans <|
    (runs_if_t (a := 45) (b := 47) (L := [.ref 1, .ref 20, .int 1]) (st := []) (w := w) rfl h5).trans <|
    (runs_stps (q' := (46, [.null, .null, .null], [.int 0], w)) 1 rfl).trans <|
    runs_ret rfl
  · exact (runs_stps (q' := (5, [.ref 1, .ref 27, .null], [.int 5, .int (w.1 1 6)], w)) 3 rfl).trans <|
    (runs_if_f (a := 28) (b := 8) (L := [.ref 1, .ref 27, .null]) (st := []) (w := w) rfl h1).trans <|
    (runs_stps (q' := (17, [.ref 1, .ref 27, .null], [.int 4, .int (w.1 1 6), .int (w.1 1 8)], w)) 5 rfl).trans <|
    (runs_if_f (a := 20) (b := 24) (L := [.ref 1, .ref 27, .null]) (st := [.int (w.1 1 8)]) (w := w) rfl h2).trans <|
    (runs_stps (q' := (25, [.ref 1, .ref 27, .null], [.int 1, .int (w.1 1 8)], w)) 1 rfl).trans <|
    (runs_if_t (a := 28) (b := 32) (L := [.ref 1, .ref 27, .null]) (st := []) (w := w) rfl h3).trans <|
    (runs_stps (q' := (38, [.ref 1, .ref 27, .int 1], [.int (w.1 1 6)], w)) 5 rfl).trans <|
    (runs_if_f (a := 45) (b := 41) (L := [.ref 1, .ref 27, .int 1]) (st := []) (w := w) rfl h4).trans <|
    (runs_stps (q' := (42, [.ref 1, .ref 27, .int 1], [.int 1], w)) 1 rfl).trans <|
    (runs_if_t (a := 45) (b := 47) (L := [.ref 1, .ref 27, .int 1]) (st := []) (w := w) rfl h5).trans <|
    (runs_stps (q' := (46, [.null, .null, .null], [.int 0], w)) 1 rfl).trans <|
    runs_ret rfl
theorem p_X3_closesItem_0FFTT_R {ex : Ex} {p : Nat} {w : Wd} (hp : scp p) (h1 : ¬ (w.1 1 6) = 5) (h2 : (w.1 1 6) = 4) (h3 : ¬ (w.1 1 8) = 4) (h4 : (w.1 1 6) = 0) : runs (T_X3_closesItem ex) (0, [.ref 1, .ref p, .null], [], w) = some (some (.int 0), w) := by
  rcases hp with rfl | rfl
  · exact (runs_stps (q' := (5, [.ref 1, .ref 20, .null], [.int 5, .int (w.1 1 6)], w)) 3 rfl).trans <|
    (runs_if_f (a := 28) (b := 8) (L := [.ref 1, .ref 20, .null]) (st := []) (w := w) rfl h1).trans <|
    (runs_stps (q' := (17, [.ref 1, .ref 20, .null], [.int 4, .int (w.1 1 6), .int (w.1 1 8)], w)) 5 rfl).trans <|
    (runs_if_t (a := 20) (b := 24) (L := [.ref 1, .ref 20, .null]) (st := [.int (w.1 1 8)]) (w := w) rfl h2).trans <|
    (runs_stps (q' := (25, [.ref 1, .ref 20, .null], [.int 4, .int (w.1 1 8)], w)) 2 rfl).trans <|
    (runs_if_f (a := 28) (b := 32) (L := [.ref 1, .ref 20, .null]) (st := []) (w := w) rfl h3).trans <|
    (runs_stps (q' := (38, [.ref 1, .ref 20, .int 0], [.int (w.1 1 6)], w)) 4 rfl).trans <|
    (runs_if_t (a := 45) (b := 41) (L := [.ref 1, .ref 20, .int 0]) (st := []) (w := w) rfl h4).trans <|
    (runs_stps (q' := (46, [.null, .null, .null], [.int 0], w)) 1 rfl).trans <|
    runs_ret rfl
  · exact (runs_stps (q' := (5, [.ref 1, .ref 27, .null], [.int 5, .int (w.1 1 6)], w)) 3 rfl).trans <|
    (runs_if_f (a := 28) (b := 8) (L := [.ref 1, .ref 27, .null]) (st := []) (w := w) rfl h1).trans <|
    (runs_stps (q' := (17, [.ref 1, .ref 27, .null], [.int 4, .int (w.1 1 6), .int (w.1 1 8)], w)) 5 rfl).trans <|
    (runs_if_t (a := 20) (b := 24) (L := [.ref 1, .ref 27, .null]) (st := [.int (w.1 1 8)]) (w := w) rfl h2).trans <|
    (runs_stps (q' := (25, [.ref 1, .ref 27, .null], [.int 4, .int (w.1 1 8)], w)) 2 rfl).trans <|
    (runs_if_f (a := 28) (b := 32) (L := [.ref 1, .ref 27, .null]) (st := []) (w := w) rfl h3).trans <|
    (runs_stps (q' := (38, [.ref 1, .ref 27, .int 0], [.int (w.1 1 6)], w)) 4 rfl).trans <|
    (runs_if_t (a := 45) (b := 41) (L := [.ref 1, .ref 27, .int 0]) (st := []) (w := w) rfl h4).trans <|
    (runs_stps (q' := (46, [.null, .null, .null], [.int 0], w)) 1 rfl).trans <|
    runs_ret rfl
theorem p_X3_closesItem_0FFTFT_R {ex : Ex} {p : Nat} {w1 : Wd} {w : Wd} (hp : scp p) (h1 : ¬ (w.1 1 6) = 5) (h2 : (w.1 1 6) = 4) (h3 : ¬ (w.1 1 8) = 4) (h4 : ¬ (w.1 1 6) = 0) (h5 : ¬ (0 : Int32) = 0) (h6 : ex 30 [.ref 1, .ref p] w = some (none, w1)) : runs (T_X3_closesItem ex) (0, [.ref 1, .ref p, .null], [], w) = some (some (.int 1), updI (updI w1 1 6 0) 1 9 ((w1.1 1 9) + 1)) := by
  rcases hp with rfl | rfl
  · exact (runs_stps (q' := (5, [.ref 1, .ref 20, .null], [.int 5, .int (w.1 1 6)], w)) 3 rfl).trans <|
    (runs_if_f (a := 28) (b := 8) (L := [.ref 1, .ref 20, .null]) (st := []) (w := w) rfl h1).trans <|
    (runs_stps (q' := (17, [.ref 1, .ref 20, .null], [.int 4, .int (w.1 1 6), .int (w.1 1 8)], w)) 5 rfl).trans <|
    (runs_if_t (a := 20) (b := 24) (L := [.ref 1, .ref 20, .null]) (st := [.int (w.1 1 8)]) (w := w) rfl h2).trans <|
    (runs_stps (q' := (25, [.ref 1, .ref 20, .null], [.int 4, .int (w.1 1 8)], w)) 2 rfl).trans <|
    (runs_if_f (a := 28) (b := 32) (L := [.ref 1, .ref 20, .null]) (st := []) (w := w) rfl h3).trans <|
    (runs_stps (q' := (38, [.ref 1, .ref 20, .int 0], [.int (w.1 1 6)], w)) 4 rfl).trans <|
    (runs_if_f (a := 45) (b := 41) (L := [.ref 1, .ref 20, .int 0]) (st := []) (w := w) rfl h4).trans <|
    (runs_stps (q' := (42, [.ref 1, .ref 20, .int 0], [.int 0], w)) 1 rfl).trans <|
    (runs_if_f (a := 45) (b := 47) (L := [.ref 1, .ref 20, .int 0]) (st := []) (w := w) rfl h5).trans <|
    (runs_stps (q' := (49, [.ref 1, .ref 20, .null], [.ref 20, .ref 1], w)) 2 rfl).trans <|
    (runs_callV (rv := none) (w' := w1) rfl rfl rfl rfl h6).trans <|
    (runs_stps (q' := (68, [.ref 1, .ref 20, .null], [.int 1], updI (updI w1 1 6 0) 1 9 ((w1.1 1 9) + 1))) 10 rfl).trans <|
    runs_ret rfl
  · exact (runs_stps (q' := (5, [.ref 1, .ref 27, .null], [.int 5, .int (w.1 1 6)], w)) 3 rfl).trans <|
    (runs_if_f (a := 28) (b := 8) (L := [.ref 1, .ref 27, .null]) (st := []) (w := w) rfl h1).trans <|
    (runs_stps (q' := (17, [.ref 1, .ref 27, .null], [.int 4, .int (w.1 1 6), .int (w.1 1 8)], w)) 5 rfl).trans <|
    (runs_if_t (a := 20) (b := 24) (L := [.ref 1, .ref 27, .null]) (st := [.int (w.1 1 8)]) (w := w) rfl h2).trans <|
    (runs_stps (q' := (25, [.ref 1, .ref 27, .null], [.int 4, .int (w.1 1 8)], w)) 2 rfl).trans <|
    (runs_if_f (a := 28) (b := 32) (L := [.ref 1, .ref 27, .null]) (st := []) (w := w) rfl h3).trans <|
    (runs_stps (q' := (38, [.ref 1, .ref 27, .int 0], [.int (w.1 1 6)], w)) 4 rfl).trans <|
    (runs_if_f (a := 45) (b := 41) (L := [.ref 1, .ref 27, .int 0]) (st := []) (w := w) rfl h4).trans <|
    (runs_stps (q' := (42, [.ref 1, .ref 27, .int 0], [.int 0], w)) 1 rfl).trans <|
    (runs_if_f (a := 45) (b := 47) (L := [.ref 1, .ref 27, .int 0]) (st := []) (w := w) rfl h5).trans <|
    (runs_stps (q' := (49, [.ref 1, .ref 27, .null], [.ref 27, .ref 1], w)) 2 rfl).trans <|
    (runs_callV (rv := none) (w' := w1) rfl rfl rfl rfl h6).trans <|
    (runs_stps (q' := (68, [.ref 1, .ref 27, .null], [.int 1], updI (updI w1 1 6 0) 1 9 ((w1.1 1 9) + 1))) 10 rfl).trans <|
    runs_ret rfl
theorem p_X3_closesItem_0FFTFF_R {ex : Ex} {p : Nat} {w : Wd} (hp : scp p) (h1 : ¬ (w.1 1 6) = 5) (h2 : (w.1 1 6) = 4) (h3 : ¬ (w.1 1 8) = 4) (h4 : ¬ (w.1 1 6) = 0) (h5 : (0 : Int32) = 0) : runs (T_X3_closesItem ex) (0, [.ref 1, .ref p, .null], [], w) = some (some (.int 0), w) := by
  rcases hp with rfl | rfl
  · exact (runs_stps (q' := (5, [.ref 1, .ref 20, .null], [.int 5, .int (w.1 1 6)], w)) 3 rfl).trans <|
    (runs_if_f (a := 28) (b := 8) (L := [.ref 1, .ref 20, .null]) (st := []) (w := w) rfl h1).trans <|
    (runs_stps (q' := (17, [.ref 1, .ref 20, .null], [.int 4, .int (w.1 1 6), .int (w.1 1 8)], w)) 5 rfl).trans <|
    (runs_if_t (a := 20) (b := 24) (L := [.ref 1, .ref 20, .null]) (st := [.int (w.1 1 8)]) (w := w) rfl h2).trans <|
    (runs_stps (q' := (25, [.ref 1, .ref 20, .null], [.int 4, .int (w.1 1 8)], w)) 2 rfl).trans <|
    (runs_if_f (a := 28) (b := 32) (L := [.ref 1, .ref 20, .null]) (st := []) (w := w) rfl h3).trans <|
    (runs_stps (q' := (38, [.ref 1, .ref 20, .int 0], [.int (w.1 1 6)], w)) 4 rfl).trans <|
    (runs_if_f (a := 45) (b := 41) (L := [.ref 1, .ref 20, .int 0]) (st := []) (w := w) rfl h4).trans <|
    (runs_stps (q' := (42, [.ref 1, .ref 20, .int 0], [.int 0], w)) 1 rfl).trans <|
    (runs_if_t (a := 45) (b := 47) (L := [.ref 1, .ref 20, .int 0]) (st := []) (w := w) rfl h5).trans <|
    (runs_stps (q' := (46, [.null, .null, .null], [.int 0], w)) 1 rfl).trans <|
    runs_ret rfl
  · exact (runs_stps (q' := (5, [.ref 1, .ref 27, .null], [.int 5, .int (w.1 1 6)], w)) 3 rfl).trans <|
    (runs_if_f (a := 28) (b := 8) (L := [.ref 1, .ref 27, .null]) (st := []) (w := w) rfl h1).trans <|
    (runs_stps (q' := (17, [.ref 1, .ref 27, .null], [.int 4, .int (w.1 1 6), .int (w.1 1 8)], w)) 5 rfl).trans <|
    (runs_if_t (a := 20) (b := 24) (L := [.ref 1, .ref 27, .null]) (st := [.int (w.1 1 8)]) (w := w) rfl h2).trans <|
    (runs_stps (q' := (25, [.ref 1, .ref 27, .null], [.int 4, .int (w.1 1 8)], w)) 2 rfl).trans <|
    (runs_if_f (a := 28) (b := 32) (L := [.ref 1, .ref 27, .null]) (st := []) (w := w) rfl h3).trans <|
    (runs_stps (q' := (38, [.ref 1, .ref 27, .int 0], [.int (w.1 1 6)], w)) 4 rfl).trans <|
    (runs_if_f (a := 45) (b := 41) (L := [.ref 1, .ref 27, .int 0]) (st := []) (w := w) rfl h4).trans <|
    (runs_stps (q' := (42, [.ref 1, .ref 27, .int 0], [.int 0], w)) 1 rfl).trans <|
    (runs_if_t (a := 45) (b := 47) (L := [.ref 1, .ref 27, .int 0]) (st := []) (w := w) rfl h5).trans <|
    (runs_stps (q' := (46, [.null, .null, .null], [.int 0], w)) 1 rfl).trans <|
    runs_ret rfl
theorem p_X3_closesItem_0FFFT_R {ex : Ex} {p : Nat} {w : Wd} (hp : scp p) (h1 : ¬ (w.1 1 6) = 5) (h2 : (w.1 1 6) = 4) (h3 : (w.1 1 8) = 4) (h4 : (w.1 1 6) = 0) : runs (T_X3_closesItem ex) (0, [.ref 1, .ref p, .null], [], w) = some (some (.int 0), w) := by
  rcases hp with rfl | rfl
  · exact (runs_stps (q' := (5, [.ref 1, .ref 20, .null], [.int 5, .int (w.1 1 6)], w)) 3 rfl).trans <|
    (runs_if_f (a := 28) (b := 8) (L := [.ref 1, .ref 20, .null]) (st := []) (w := w) rfl h1).trans <|
    (runs_stps (q' := (17, [.ref 1, .ref 20, .null], [.int 4, .int (w.1 1 6), .int (w.1 1 8)], w)) 5 rfl).trans <|
    (runs_if_t (a := 20) (b := 24) (L := [.ref 1, .ref 20, .null]) (st := [.int (w.1 1 8)]) (w := w) rfl h2).trans <|
    (runs_stps (q' := (25, [.ref 1, .ref 20, .null], [.int 4, .int (w.1 1 8)], w)) 2 rfl).trans <|
    (runs_if_t (a := 28) (b := 32) (L := [.ref 1, .ref 20, .null]) (st := []) (w := w) rfl h3).trans <|
    (runs_stps (q' := (38, [.ref 1, .ref 20, .int 1], [.int (w.1 1 6)], w)) 5 rfl).trans <|
    (runs_if_t (a := 45) (b := 41) (L := [.ref 1, .ref 20, .int 1]) (st := []) (w := w) rfl h4).trans <|
    (runs_stps (q' := (46, [.null, .null, .null], [.int 0], w)) 1 rfl).trans <|
    runs_ret rfl
  · exact (runs_stps (q' := (5, [.ref 1, .ref 27, .null], [.int 5, .int (w.1 1 6)], w)) 3 rfl).trans <|
    (runs_if_f (a := 28) (b := 8) (L := [.ref 1, .ref 27, .null]) (st := []) (w := w) rfl h1).trans <|
    (runs_stps (q' := (17, [.ref 1, .ref 27, .null], [.int 4, .int (w.1 1 6), .int (w.1 1 8)], w)) 5 rfl).trans <|
    (runs_if_t (a := 20) (b := 24) (L := [.ref 1, .ref 27, .null]) (st := [.int (w.1 1 8)]) (w := w) rfl h2).trans <|
    (runs_stps (q' := (25, [.ref 1, .ref 27, .null], [.int 4, .int (w.1 1 8)], w)) 2 rfl).trans <|
    (runs_if_t (a := 28) (b := 32) (L := [.ref 1, .ref 27, .null]) (st := []) (w := w) rfl h3).trans <|
    (runs_stps (q' := (38, [.ref 1, .ref 27, .int 1], [.int (w.1 1 6)], w)) 5 rfl).trans <|
    (runs_if_t (a := 45) (b := 41) (L := [.ref 1, .ref 27, .int 1]) (st := []) (w := w) rfl h4).trans <|
    (runs_stps (q' := (46, [.null, .null, .null], [.int 0], w)) 1 rfl).trans <|
    runs_ret rfl
theorem p_X3_closesItem_0FFFFT_R {ex : Ex} {p : Nat} {w1 : Wd} {w : Wd} (hp : scp p) (h1 : ¬ (w.1 1 6) = 5) (h2 : (w.1 1 6) = 4) (h3 : (w.1 1 8) = 4) (h4 : ¬ (w.1 1 6) = 0) (h5 : ¬ (1 : Int32) = 0) (h6 : ex 30 [.ref 1, .ref p] w = some (none, w1)) : runs (T_X3_closesItem ex) (0, [.ref 1, .ref p, .null], [], w) = some (some (.int 1), updI (updI w1 1 6 0) 1 9 ((w1.1 1 9) + 1)) := by
  rcases hp with rfl | rfl
  · exact (runs_stps (q' := (5, [.ref 1, .ref 20, .null], [.int 5, .int (w.1 1 6)], w)) 3 rfl).trans <|
    (runs_if_f (a := 28) (b := 8) (L := [.ref 1, .ref 20, .null]) (st := []) (w := w) rfl h1).trans <|
    (runs_stps (q' := (17, [.ref 1, .ref 20, .null], [.int 4, .int (w.1 1 6), .int (w.1 1 8)], w)) 5 rfl).trans <|
    (runs_if_t (a := 20) (b := 24) (L := [.ref 1, .ref 20, .null]) (st := [.int (w.1 1 8)]) (w := w) rfl h2).trans <|
    (runs_stps (q' := (25, [.ref 1, .ref 20, .null], [.int 4, .int (w.1 1 8)], w)) 2 rfl).trans <|
    (runs_if_t (a := 28) (b := 32) (L := [.ref 1, .ref 20, .null]) (st := []) (w := w) rfl h3).trans <|
    (runs_stps (q' := (38, [.ref 1, .ref 20, .int 1], [.int (w.1 1 6)], w)) 5 rfl).trans <|
    (runs_if_f (a := 45) (b := 41) (L := [.ref 1, .ref 20, .int 1]) (st := []) (w := w) rfl h4).trans <|
    (runs_stps (q' := (42, [.ref 1, .ref 20, .int 1], [.int 1], w)) 1 rfl).trans <|
    (runs_if_f (a := 45) (b := 47) (L := [.ref 1, .ref 20, .int 1]) (st := []) (w := w) rfl h5).trans <|
    (runs_stps (q' := (49, [.ref 1, .ref 20, .null], [.ref 20, .ref 1], w)) 2 rfl).trans <|
    (runs_callV (rv := none) (w' := w1) rfl rfl rfl rfl h6).trans <|
    (runs_stps (q' := (68, [.ref 1, .ref 20, .null], [.int 1], updI (updI w1 1 6 0) 1 9 ((w1.1 1 9) + 1))) 10 rfl).trans <|
    runs_ret rfl
  · exact (runs_stps (q' := (5, [.ref 1, .ref 27, .null], [.int 5, .int (w.1 1 6)], w)) 3 rfl).trans <|
    (runs_if_f (a := 28) (b := 8) (L := [.ref 1, .ref 27, .null]) (st := []) (w := w) rfl h1).trans <|
    (runs_stps (q' := (17, [.ref 1, .ref 27, .null], [.int 4, .int (w.1 1 6), .int (w.1 1 8)], w)) 5 rfl).trans <|
    (runs_if_t (a := 20) (b := 24) (L := [.ref 1, .ref 27, .null]) (st := [.int (w.1 1 8)]) (w := w) rfl h2).trans <|
    (runs_stps (q' := (25, [.ref 1, .ref 27, .null], [.int 4, .int (w.1 1 8)], w)) 2 rfl).trans <|
    (runs_if_t (a := 28) (b := 32) (L := [.ref 1, .ref 27, .null]) (st := []) (w := w) rfl h3).trans <|
    (runs_stps (q' := (38, [.ref 1, .ref 27, .int 1], [.int (w.1 1 6)], w)) 5 rfl).trans <|
    (runs_if_f (a := 45) (b := 41) (L := [.ref 1, .ref 27, .int 1]) (st := []) (w := w) rfl h4).trans <|
    (runs_stps (q' := (42, [.ref 1, .ref 27, .int 1], [.int 1], w)) 1 rfl).trans <|
    (runs_if_f (a := 45) (b := 47) (L := [.ref 1, .ref 27, .int 1]) (st := []) (w := w) rfl h5).trans <|
    (runs_stps (q' := (49, [.ref 1, .ref 27, .null], [.ref 27, .ref 1], w)) 2 rfl).trans <|
    (runs_callV (rv := none) (w' := w1) rfl rfl rfl rfl h6).trans <|
    (runs_stps (q' := (68, [.ref 1, .ref 27, .null], [.int 1], updI (updI w1 1 6 0) 1 9 ((w1.1 1 9) + 1))) 10 rfl).trans <|
    runs_ret rfl
theorem p_X3_closesItem_0FFFFF_R {ex : Ex} {p : Nat} {w : Wd} (hp : scp p) (h1 : ¬ (w.1 1 6) = 5) (h2 : (w.1 1 6) = 4) (h3 : (w.1 1 8) = 4) (h4 : ¬ (w.1 1 6) = 0) (h5 : (1 : Int32) = 0) : runs (T_X3_closesItem ex) (0, [.ref 1, .ref p, .null], [], w) = some (some (.int 0), w) := by
  rcases hp with rfl | rfl
  · exact (runs_stps (q' := (5, [.ref 1, .ref 20, .null], [.int 5, .int (w.1 1 6)], w)) 3 rfl).trans <|
    (runs_if_f (a := 28) (b := 8) (L := [.ref 1, .ref 20, .null]) (st := []) (w := w) rfl h1).trans <|
    (runs_stps (q' := (17, [.ref 1, .ref 20, .null], [.int 4, .int (w.1 1 6), .int (w.1 1 8)], w)) 5 rfl).trans <|
    (runs_if_t (a := 20) (b := 24) (L := [.ref 1, .ref 20, .null]) (st := [.int (w.1 1 8)]) (w := w) rfl h2).trans <|
    (runs_stps (q' := (25, [.ref 1, .ref 20, .null], [.int 4, .int (w.1 1 8)], w)) 2 rfl).trans <|
    (runs_if_t (a := 28) (b := 32) (L := [.ref 1, .ref 20, .null]) (st := []) (w := w) rfl h3).trans <|
    (runs_stps (q' := (38, [.ref 1, .ref 20, .int 1], [.int (w.1 1 6)], w)) 5 rfl).trans <|
    (runs_if_f (a := 45) (b := 41) (L := [.ref 1, .ref 20, .int 1]) (st := []) (w := w) rfl h4).trans <|
    (runs_stps (q' := (42, [.ref 1, .ref 20, .int 1], [.int 1], w)) 1 rfl).trans <|
    (runs_if_t (a := 45) (b := 47) (L := [.ref 1, .ref 20, .int 1]) (st := []) (w := w) rfl h5).trans <|
    (runs_stps (q' := (46, [.null, .null, .null], [.int 0], w)) 1 rfl).trans <|
    runs_ret rfl
  · exact (runs_stps (q' := (5, [.ref 1, .ref 27, .null], [.int 5, .int (w.1 1 6)], w)) 3 rfl).trans <|
    (runs_if_f (a := 28) (b := 8) (L := [.ref 1, .ref 27, .null]) (st := []) (w := w) rfl h1).trans <|
    (runs_stps (q' := (17, [.ref 1, .ref 27, .null], [.int 4, .int (w.1 1 6), .int (w.1 1 8)], w)) 5 rfl).trans <|
    (runs_if_t (a := 20) (b := 24) (L := [.ref 1, .ref 27, .null]) (st := [.int (w.1 1 8)]) (w := w) rfl h2).trans <|
    (runs_stps (q' := (25, [.ref 1, .ref 27, .null], [.int 4, .int (w.1 1 8)], w)) 2 rfl).trans <|
    (runs_if_t (a := 28) (b := 32) (L := [.ref 1, .ref 27, .null]) (st := []) (w := w) rfl h3).trans <|
    (runs_stps (q' := (38, [.ref 1, .ref 27, .int 1], [.int (w.1 1 6)], w)) 5 rfl).trans <|
    (runs_if_f (a := 45) (b := 41) (L := [.ref 1, .ref 27, .int 1]) (st := []) (w := w) rfl h4).trans <|
    (runs_stps (q' := (42, [.ref 1, .ref 27, .int 1], [.int 1], w)) 1 rfl).trans <|
    (runs_if_t (a := 45) (b := 47) (L := [.ref 1, .ref 27, .int 1]) (st := []) (w := w) rfl h5).trans <|
    (runs_stps (q' := (46, [.null, .null, .null], [.int 0], w)) 1 rfl).trans <|
    runs_ret rfl
theorem p_X3_tell_0S4_R {ex : Ex} {p : Nat} {r1 : Int32} {w1 : Wd} {r2 : Int32} {w2 : Wd} {r3 : Int32} {w3 : Wd} {r4 : Int32} {w4 : Wd} {w5 : Wd} {w : Wd} (hp : scp p) (h1 : ex 133 [.ref 3, .int 0] w = some (some (.int r1), w1)) (h2 : (w1.1 1 6) = 4) (h3 : ex 133 [.ref 3, .int 1] w1 = some (some (.int r2), w2)) (h4 : ex 133 [.ref 3, .int 2] w2 = some (some (.int r3), w3)) (h5 : ex 133 [.ref 3, .int 3] w3 = some (some (.int r4), w4)) (h6 : ex 47 [.ref p, .int r1, .int r2, .int r3, .int r4] w4 = some (none, w5)) : runs (T_X3_tell ex) (0, [.ref 1, .ref p, .null], [], w) = some (none, updI w5 1 10 ((w5.1 1 10) ||| (1 <<< ((w5.1 1 6) &&& 31)))) := by
  rcases hp with rfl | rfl
  · exact (runs_stps (q' := (5, [.ref 1, .ref 20, .null], [.int 0, .ref 3], w)) 3 rfl).trans <|
    (runs_callS (rv := some (.int r1)) (w' := w1) rfl rfl rfl h1).trans <|
    (runs_stps (q' := (13, [.ref 1, .ref 20, .int r1], [.int (w1.1 1 6)], w1)) 3 rfl).trans <|
    (runs_sw (L := [.ref 1, .ref 20, .int r1]) (st := []) (w := w1) rfl (show tsel _ _ _ = 48 by rw [h2]; rfl)).trans <|
    (runs_stps (q' := (55, [.ref 1, .ref 20, .int r1], [.int 1, .ref 3, .int r1, .ref 20], w1)) 5 rfl).trans <|
    (runs_callS (rv := some (.int r2)) (w' := w2) rfl rfl rfl h3).trans <|
    (runs_stps (q' := (63, [.ref 1, .ref 20, .int r1], [.int 2, .ref 3, .int r2, .int r1, .ref 20], w2)) 3 rfl).trans <|
    (runs_callS (rv := some (.int r3)) (w' := w3) rfl rfl rfl h4).trans <|
    (runs_stps (q' := (71, [.ref 1, .ref 20, .int r1], [.int 3, .ref 3, .int r3, .int r2, .int r1, .ref 20], w3)) 3 rfl).trans <|
    (runs_callS (rv := some (.int r4)) (w' := w4) rfl rfl rfl h5).trans <|
    (runs_callV (rv := none) (w' := w5) rfl rfl rfl rfl h6).trans <|
    (runs_stps (q' := (135, [.ref 1, .null, .null], [], updI w5 1 10 ((w5.1 1 10) ||| (1 <<< ((w5.1 1 6) &&& 31))))) 10 rfl).trans <|
    runs_ret rfl
  · exact (runs_stps (q' := (5, [.ref 1, .ref 27, .null], [.int 0, .ref 3], w)) 3 rfl).trans <|
    (runs_callS (rv := some (.int r1)) (w' := w1) rfl rfl rfl h1).trans <|
    (runs_stps (q' := (13, [.ref 1, .ref 27, .int r1], [.int (w1.1 1 6)], w1)) 3 rfl).trans <|
    (runs_sw (L := [.ref 1, .ref 27, .int r1]) (st := []) (w := w1) rfl (show tsel _ _ _ = 48 by rw [h2]; rfl)).trans <|
    (runs_stps (q' := (55, [.ref 1, .ref 27, .int r1], [.int 1, .ref 3, .int r1, .ref 27], w1)) 5 rfl).trans <|
    (runs_callS (rv := some (.int r2)) (w' := w2) rfl rfl rfl h3).trans <|
    (runs_stps (q' := (63, [.ref 1, .ref 27, .int r1], [.int 2, .ref 3, .int r2, .int r1, .ref 27], w2)) 3 rfl).trans <|
    (runs_callS (rv := some (.int r3)) (w' := w3) rfl rfl rfl h4).trans <|
    (runs_stps (q' := (71, [.ref 1, .ref 27, .int r1], [.int 3, .ref 3, .int r3, .int r2, .int r1, .ref 27], w3)) 3 rfl).trans <|
    (runs_callS (rv := some (.int r4)) (w' := w4) rfl rfl rfl h5).trans <|
    (runs_callV (rv := none) (w' := w5) rfl rfl rfl rfl h6).trans <|
    (runs_stps (q' := (135, [.ref 1, .null, .null], [], updI w5 1 10 ((w5.1 1 10) ||| (1 <<< ((w5.1 1 6) &&& 31))))) 10 rfl).trans <|
    runs_ret rfl
theorem p_X3_tell_0S5_R {ex : Ex} {p : Nat} {r1 : Int32} {w1 : Wd} {r2 : Int32} {w2 : Wd} {w3 : Wd} {w : Wd} (hp : scp p) (h1 : ex 133 [.ref 3, .int 0] w = some (some (.int r1), w1)) (h2 : (w1.1 1 6) = 5) (h3 : ex 31 [.ref 1] w1 = some (some (.int r2), w2)) (h4 : ex 48 [.ref p, .int r2] w2 = some (none, w3)) : runs (T_X3_tell ex) (0, [.ref 1, .ref p, .null], [], w) = some (none, updI w3 1 10 ((w3.1 1 10) ||| (1 <<< ((w3.1 1 6) &&& 31)))) := by
  rcases hp with rfl | rfl
  · exact (runs_stps (q' := (5, [.ref 1, .ref 20, .null], [.int 0, .ref 3], w)) 3 rfl).trans <|
    (runs_callS (rv := some (.int r1)) (w' := w1) rfl rfl rfl h1).trans <|
    (runs_stps (q' := (13, [.ref 1, .ref 20, .int r1], [.int (w1.1 1 6)], w1)) 3 rfl).trans <|
    (runs_sw (L := [.ref 1, .ref 20, .int r1]) (st := []) (w := w1) rfl (show tsel _ _ _ = 80 by rw [h2]; rfl)).trans <|
    (runs_stps (q' := (82, [.ref 1, .ref 20, .null], [.ref 1, .ref 20], w1)) 2 rfl).trans <|
    (runs_callV (rv := some (.int r2)) (w' := w2) rfl rfl rfl rfl h3).trans <|
    (runs_callV (rv := none) (w' := w3) rfl rfl rfl rfl h4).trans <|
    (runs_stps (q' := (135, [.ref 1, .null, .null], [], updI w3 1 10 ((w3.1 1 10) ||| (1 <<< ((w3.1 1 6) &&& 31))))) 10 rfl).trans <|
    runs_ret rfl
  · exact (runs_stps (q' := (5, [.ref 1, .ref 27, .null], [.int 0, .ref 3], w)) 3 rfl).trans <|
    (runs_callS (rv := some (.int r1)) (w' := w1) rfl rfl rfl h1).trans <|
    (runs_stps (q' := (13, [.ref 1, .ref 27, .int r1], [.int (w1.1 1 6)], w1)) 3 rfl).trans <|
    (runs_sw (L := [.ref 1, .ref 27, .int r1]) (st := []) (w := w1) rfl (show tsel _ _ _ = 80 by rw [h2]; rfl)).trans <|
    (runs_stps (q' := (82, [.ref 1, .ref 27, .null], [.ref 1, .ref 27], w1)) 2 rfl).trans <|
    (runs_callV (rv := some (.int r2)) (w' := w2) rfl rfl rfl rfl h3).trans <|
    (runs_callV (rv := none) (w' := w3) rfl rfl rfl rfl h4).trans <|
    (runs_stps (q' := (135, [.ref 1, .null, .null], [], updI w3 1 10 ((w3.1 1 10) ||| (1 <<< ((w3.1 1 6) &&& 31))))) 10 rfl).trans <|
    runs_ret rfl
theorem p_X3_tell_0S6_R {ex : Ex} {p : Nat} {r1 : Int32} {w1 : Wd} {w2 : Wd} {w : Wd} (hp : scp p) (h1 : ex 133 [.ref 3, .int 0] w = some (some (.int r1), w1)) (h2 : (w1.1 1 6) = 6) (h3 : ex 49 [.ref p, .int r1] w1 = some (none, w2)) : runs (T_X3_tell ex) (0, [.ref 1, .ref p, .null], [], w) = some (none, updI w2 1 10 ((w2.1 1 10) ||| (1 <<< ((w2.1 1 6) &&& 31)))) := by
  rcases hp with rfl | rfl
  · exact (runs_stps (q' := (5, [.ref 1, .ref 20, .null], [.int 0, .ref 3], w)) 3 rfl).trans <|
    (runs_callS (rv := some (.int r1)) (w' := w1) rfl rfl rfl h1).trans <|
    (runs_stps (q' := (13, [.ref 1, .ref 20, .int r1], [.int (w1.1 1 6)], w1)) 3 rfl).trans <|
    (runs_sw (L := [.ref 1, .ref 20, .int r1]) (st := []) (w := w1) rfl (show tsel _ _ _ = 91 by rw [h2]; rfl)).trans <|
    (runs_stps (q' := (93, [.ref 1, .ref 20, .int r1], [.int r1, .ref 20], w1)) 2 rfl).trans <|
    (runs_callV (rv := none) (w' := w2) rfl rfl rfl rfl h3).trans <|
    (runs_stps (q' := (135, [.ref 1, .null, .null], [], updI w2 1 10 ((w2.1 1 10) ||| (1 <<< ((w2.1 1 6) &&& 31))))) 10 rfl).trans <|
    runs_ret rfl
  · exact (runs_stps (q' := (5, [.ref 1, .ref 27, .null], [.int 0, .ref 3], w)) 3 rfl).trans <|
    (runs_callS (rv := some (.int r1)) (w' := w1) rfl rfl rfl h1).trans <|
    (runs_stps (q' := (13, [.ref 1, .ref 27, .int r1], [.int (w1.1 1 6)], w1)) 3 rfl).trans <|
    (runs_sw (L := [.ref 1, .ref 27, .int r1]) (st := []) (w := w1) rfl (show tsel _ _ _ = 91 by rw [h2]; rfl)).trans <|
    (runs_stps (q' := (93, [.ref 1, .ref 27, .int r1], [.int r1, .ref 27], w1)) 2 rfl).trans <|
    (runs_callV (rv := none) (w' := w2) rfl rfl rfl rfl h3).trans <|
    (runs_stps (q' := (135, [.ref 1, .null, .null], [], updI w2 1 10 ((w2.1 1 10) ||| (1 <<< ((w2.1 1 6) &&& 31))))) 10 rfl).trans <|
    runs_ret rfl
theorem p_X3_tell_0S7_R {ex : Ex} {p : Nat} {r1 : Int32} {w1 : Wd} {w2 : Wd} {w : Wd} (hp : scp p) (h1 : ex 133 [.ref 3, .int 0] w = some (some (.int r1), w1)) (h2 : (w1.1 1 6) = 7) (h3 : ex 50 [.ref p, .int r1] w1 = some (none, w2)) : runs (T_X3_tell ex) (0, [.ref 1, .ref p, .null], [], w) = some (none, updI w2 1 10 ((w2.1 1 10) ||| (1 <<< ((w2.1 1 6) &&& 31)))) := by
  rcases hp with rfl | rfl
  · exact (runs_stps (q' := (5, [.ref 1, .ref 20, .null], [.int 0, .ref 3], w)) 3 rfl).trans <|
    (runs_callS (rv := some (.int r1)) (w' := w1) rfl rfl rfl h1).trans <|
    (runs_stps (q' := (13, [.ref 1, .ref 20, .int r1], [.int (w1.1 1 6)], w1)) 3 rfl).trans <|
    (runs_sw (L := [.ref 1, .ref 20, .int r1]) (st := []) (w := w1) rfl (show tsel _ _ _ = 99 by rw [h2]; rfl)).trans <|
    (runs_stps (q' := (101, [.ref 1, .ref 20, .int r1], [.int r1, .ref 20], w1)) 2 rfl).trans <|
    (runs_callV (rv := none) (w' := w2) rfl rfl rfl rfl h3).trans <|
    (runs_stps (q' := (135, [.ref 1, .null, .null], [], updI w2 1 10 ((w2.1 1 10) ||| (1 <<< ((w2.1 1 6) &&& 31))))) 10 rfl).trans <|
    runs_ret rfl
  · exact (runs_stps (q' := (5, [.ref 1, .ref 27, .null], [.int 0, .ref 3], w)) 3 rfl).trans <|
    (runs_callS (rv := some (.int r1)) (w' := w1) rfl rfl rfl h1).trans <|
    (runs_stps (q' := (13, [.ref 1, .ref 27, .int r1], [.int (w1.1 1 6)], w1)) 3 rfl).trans <|
    (runs_sw (L := [.ref 1, .ref 27, .int r1]) (st := []) (w := w1) rfl (show tsel _ _ _ = 99 by rw [h2]; rfl)).trans <|
    (runs_stps (q' := (101, [.ref 1, .ref 27, .int r1], [.int r1, .ref 27], w1)) 2 rfl).trans <|
    (runs_callV (rv := none) (w' := w2) rfl rfl rfl rfl h3).trans <|
    (runs_stps (q' := (135, [.ref 1, .null, .null], [], updI w2 1 10 ((w2.1 1 10) ||| (1 <<< ((w2.1 1 6) &&& 31))))) 10 rfl).trans <|
    runs_ret rfl
theorem p_X3_tell_0S8_R {ex : Ex} {p : Nat} {r1 : Int32} {w1 : Wd} {w2 : Wd} {w : Wd} (hp : scp p) (h1 : ex 133 [.ref 3, .int 0] w = some (some (.int r1), w1)) (h2 : (w1.1 1 6) = 8) (h3 : ex 51 [.ref p, .int r1] w1 = some (none, w2)) : runs (T_X3_tell ex) (0, [.ref 1, .ref p, .null], [], w) = some (none, updI w2 1 10 ((w2.1 1 10) ||| (1 <<< ((w2.1 1 6) &&& 31)))) := by
  rcases hp with rfl | rfl
  · exact (runs_stps (q' := (5, [.ref 1, .ref 20, .null], [.int 0, .ref 3], w)) 3 rfl).trans <|
    (runs_callS (rv := some (.int r1)) (w' := w1) rfl rfl rfl h1).trans <|
    (runs_stps (q' := (13, [.ref 1, .ref 20, .int r1], [.int (w1.1 1 6)], w1)) 3 rfl).trans <|
    (runs_sw (L := [.ref 1, .ref 20, .int r1]) (st := []) (w := w1) rfl (show tsel _ _ _ = 107 by rw [h2]; rfl)).trans <|
    (runs_stps (q' := (109, [.ref 1, .ref 20, .int r1], [.int r1, .ref 20], w1)) 2 rfl).trans <|
    (runs_callV (rv := none) (w' := w2) rfl rfl rfl rfl h3).trans <|
    (runs_stps (q' := (135, [.ref 1, .null, .null], [], updI w2 1 10 ((w2.1 1 10) ||| (1 <<< ((w2.1 1 6) &&& 31))))) 10 rfl).trans <|
    runs_ret rfl
  · exact (runs_stps (q' := (5, [.ref 1, .ref 27, .null], [.int 0, .ref 3], w)) 3 rfl).trans <|
    (runs_callS (rv := some (.int r1)) (w' := w1) rfl rfl rfl h1).trans <|
    (runs_stps (q' := (13, [.ref 1, .ref 27, .int r1], [.int (w1.1 1 6)], w1)) 3 rfl).trans <|
    (runs_sw (L := [.ref 1, .ref 27, .int r1]) (st := []) (w := w1) rfl (show tsel _ _ _ = 107 by rw [h2]; rfl)).trans <|
    (runs_stps (q' := (109, [.ref 1, .ref 27, .int r1], [.int r1, .ref 27], w1)) 2 rfl).trans <|
    (runs_callV (rv := none) (w' := w2) rfl rfl rfl rfl h3).trans <|
    (runs_stps (q' := (135, [.ref 1, .null, .null], [], updI w2 1 10 ((w2.1 1 10) ||| (1 <<< ((w2.1 1 6) &&& 31))))) 10 rfl).trans <|
    runs_ret rfl
theorem p_X3_tell_0Sd_R {ex : Ex} {p : Nat} {r1 : Int32} {w1 : Wd} {w2 : Wd} {w : Wd} (hp : scp p) (h1 : ex 133 [.ref 3, .int 0] w = some (some (.int r1), w1)) (h2 : ¬ (w1.1 1 6) = 4) (h3 : ¬ (w1.1 1 6) = 5) (h4 : ¬ (w1.1 1 6) = 6) (h5 : ¬ (w1.1 1 6) = 7) (h6 : ¬ (w1.1 1 6) = 8) (h7 : ex 52 [.ref p, .int r1] w1 = some (none, w2)) : runs (T_X3_tell ex) (0, [.ref 1, .ref p, .null], [], w) = some (none, updI w2 1 10 ((w2.1 1 10) ||| (1 <<< ((w2.1 1 6) &&& 31)))) := by
  rcases hp with rfl | rfl
  · exact (runs_stps (q' := (5, [.ref 1, .ref 20, .null], [.int 0, .ref 3], w)) 3 rfl).trans <|
    (runs_callS (rv := some (.int r1)) (w' := w1) rfl rfl rfl h1).trans <|
    (runs_stps (q' := (13, [.ref 1, .ref 20, .int r1], [.int (w1.1 1 6)], w1)) 3 rfl).trans <|
    (runs_sw (L := [.ref 1, .ref 20, .int r1]) (st := []) (w := w1) rfl (show tsel _ _ _ = 115 by simp only [tsel, h2, h3, h4, h5, h6, if_false])).trans <|
    (runs_stps (q' := (117, [.ref 1, .ref 20, .int r1], [.int r1, .ref 20], w1)) 2 rfl).trans <|
    (runs_callV (rv := none) (w' := w2) rfl rfl rfl rfl h7).trans <|
    (runs_stps (q' := (135, [.ref 1, .null, .null], [], updI w2 1 10 ((w2.1 1 10) ||| (1 <<< ((w2.1 1 6) &&& 31))))) 9 rfl).trans <|
    runs_ret rfl
  · exact (runs_stps (q' := (5, [.ref 1, .ref 27, .null], [.int 0, .ref 3], w)) 3 rfl).trans <|
    (runs_callS (rv := some (.int r1)) (w' := w1) rfl rfl rfl h1).trans <|
    (runs_stps (q' := (13, [.ref 1, .ref 27, .int r1], [.int (w1.1 1 6)], w1)) 3 rfl).trans <|
    (runs_sw (L := [.ref 1, .ref 27, .int r1]) (st := []) (w := w1) rfl (show tsel _ _ _ = 115 by simp only [tsel, h2, h3, h4, h5, h6, if_false])).trans <|
    (runs_stps (q' := (117, [.ref 1, .ref 27, .int r1], [.int r1, .ref 27], w1)) 2 rfl).trans <|
    (runs_callV (rv := none) (w' := w2) rfl rfl rfl rfl h7).trans <|
    (runs_stps (q' := (135, [.ref 1, .null, .null], [], updI w2 1 10 ((w2.1 1 10) ||| (1 <<< ((w2.1 1 6) &&& 31))))) 9 rfl).trans <|
    runs_ret rfl
theorem p_X3_gatheredRow_0_L4 {ex : Ex} {w : Wd} : runs (T_X3_gatheredRow ex) (0, [.ref 1, .null, .null], [], w) = runs (T_X3_gatheredRow ex) (4, [.ref 1, .int 0, .int 0], [], w) := 
    (runs_stps (q' := (4, [.ref 1, .int 0, .int 0], [], w)) 4 rfl).trans <|
    rfl
theorem p_X3_gatheredRow_4T_R {ex : Ex} {x1 : Int32} {x2 : Int32} {w : Wd} (h1 : (w.1 1 8) ≤ x2) : runs (T_X3_gatheredRow ex) (4, [.ref 1, .int x1, .int x2], [], w) = some (some (.int x1), w) := 
    (runs_stps (q' := (9, [.ref 1, .int x1, .int x2], [.int (w.1 1 8), .int x2], w)) 3 rfl).trans <|
    (runs_if_t (a := 31) (b := 12) (L := [.ref 1, .int x1, .int x2]) (st := []) (w := w) rfl h1).trans <|
    (runs_stps (q' := (32, [.null, .int x1, .null], [.int x1], w)) 1 rfl).trans <|
    runs_ret rfl
theorem p_X3_gatheredRow_4F_L4 {ex : Ex} {x1 : Int32} {x2 : Int32} {r1 : Int32} {w1 : Wd} {r2 : Int32} {w2 : Wd} {w : Wd} (h1 : ¬ (w.1 1 8) ≤ x2) (h2 : ex 133 [.ref 3, .int x2] w = some (some (.int r1), w1)) (h3 : ex 39 [.int x1, .int r1] w1 = some (some (.int r2), w2)) : runs (T_X3_gatheredRow ex) (4, [.ref 1, .int x1, .int x2], [], w) = runs (T_X3_gatheredRow ex) (4, [.ref 1, .int r2, .int (x2 + 1)], [], w2) := 
    (runs_stps (q' := (9, [.ref 1, .int x1, .int x2], [.int (w.1 1 8), .int x2], w)) 3 rfl).trans <|
    (runs_if_f (a := 31) (b := 12) (L := [.ref 1, .int x1, .int x2]) (st := []) (w := w) rfl h1).trans <|
    (runs_stps (q' := (18, [.ref 1, .int x1, .int x2], [.int x2, .ref 3, .int x1], w)) 4 rfl).trans <|
    (runs_callS (rv := some (.int r1)) (w' := w1) rfl rfl rfl h2).trans <|
    (runs_callS (rv := some (.int r2)) (w' := w2) rfl rfl rfl h3).trans <|
    (runs_stps (q' := (4, [.ref 1, .int r2, .int (x2 + 1)], [], w2)) 3 rfl).trans <|
    rfl
theorem p_X3_readToken_0TTTTT_R {ex : Ex} {r1 : Int32} {w1 : Wd} {r2 : Int32} {w2 : Wd} {r3 : Int32} {w3 : Wd} {w : Wd} (h1 : (w.1 1 1) ≤ (w.1 1 2)) (h2 : (w.1 1 2) < (w.1 1 1)) (h3 : ex 133 [.ref 2, .int (w.1 1 2)] (updI w 1 4 (w.1 1 2)) = some (some (.int r1), w1)) (h4 : ex 36 [.int r1] w1 = some (some (.int r2), w2)) (h5 : r2 = 0) (h6 : ex 37 [.int r1] w2 = some (some (.int r3), w3)) (h7 : r3 = 0) (h8 : ¬ r1 = 59) : runs (T_X3_readToken ex) (0, [.ref 1, .null], [], w) = some (none, updI (updI w3 1 3 0) 1 2 ((w3.1 1 2) + 1)) := 
    (runs_stps (q' := (8, [.ref 1, .null], [.int (w.1 1 1), .int (w.1 1 2)], w)) 4 rfl).trans <|
    (runs_if_t (a := 40) (b := 11) (L := [.ref 1, .null]) (st := []) (w := w) rfl h1).trans <|
    (runs_stps (q' := (56, [.ref 1, .null], [.int (w.1 1 1), .int (w.1 1 2)], updI w 1 4 (w.1 1 2))) 8 rfl).trans <|
    (runs_if_t (a := 65) (b := 59) (L := [.ref 1, .null]) (st := []) (w := updI w 1 4 (w.1 1 2)) rfl h2).trans <|
    (runs_stps (q' := (73, [.ref 1, .null], [.int (w.1 1 2), .ref 2], updI w 1 4 (w.1 1 2))) 4 rfl).trans <|
    (runs_callS (rv := some (.int r1)) (w' := w1) rfl rfl rfl h3).trans <|
    (runs_stps (q' := (78, [.ref 1, .int r1], [.int r1], w1)) 2 rfl).trans <|
    (runs_callS (rv := some (.int r2)) (w' := w2) rfl rfl rfl h4).trans <|
    (runs_if_t (a := 91) (b := 84) (L := [.ref 1, .int r1]) (st := []) (w := w2) rfl h5).trans <|
    (runs_stps (q' := (92, [.ref 1, .int r1], [.int r1], w2)) 1 rfl).trans <|
    (runs_callS (rv := some (.int r3)) (w' := w3) rfl rfl rfl h6).trans <|
    (runs_if_t (a := 105) (b := 98) (L := [.ref 1, .int r1]) (st := []) (w := w3) rfl h7).trans <|
    (runs_stps (q' := (109, [.ref 1, .int r1], [.int 59, .int r1, .ref 1], w3)) 3 rfl).trans <|
    (runs_if_f (a := 112) (b := 116) (L := [.ref 1, .int r1]) (st := [.ref 1]) (w := w3) rfl h8).trans <|
    (runs_stps (q' := (130, [.ref 1, .null], [], updI (updI w3 1 3 0) 1 2 ((w3.1 1 2) + 1))) 8 rfl).trans <|
    runs_ret rfl
theorem p_X3_readToken_0TTTTF_R {ex : Ex} {r1 : Int32} {w1 : Wd} {r2 : Int32} {w2 : Wd} {r3 : Int32} {w3 : Wd} {w : Wd} (h1 : (w.1 1 1) ≤ (w.1 1 2)) (h2 : (w.1 1 2) < (w.1 1 1)) (h3 : ex 133 [.ref 2, .int (w.1 1 2)] (updI w 1 4 (w.1 1 2)) = some (some (.int r1), w1)) (h4 : ex 36 [.int r1] w1 = some (some (.int r2), w2)) (h5 : r2 = 0) (h6 : ex 37 [.int r1] w2 = some (some (.int r3), w3)) (h7 : r3 = 0) (h8 : r1 = 59) : runs (T_X3_readToken ex) (0, [.ref 1, .null], [], w) = some (none, updI (updI w3 1 3 2) 1 2 ((w3.1 1 2) + 1)) := 
    (runs_stps (q' := (8, [.ref 1, .null], [.int (w.1 1 1), .int (w.1 1 2)], w)) 4 rfl).trans <|
    (runs_if_t (a := 40) (b := 11) (L := [.ref 1, .null]) (st := []) (w := w) rfl h1).trans <|
    (runs_stps (q' := (56, [.ref 1, .null], [.int (w.1 1 1), .int (w.1 1 2)], updI w 1 4 (w.1 1 2))) 8 rfl).trans <|
    (runs_if_t (a := 65) (b := 59) (L := [.ref 1, .null]) (st := []) (w := updI w 1 4 (w.1 1 2)) rfl h2).trans <|
    (runs_stps (q' := (73, [.ref 1, .null], [.int (w.1 1 2), .ref 2], updI w 1 4 (w.1 1 2))) 4 rfl).trans <|
    (runs_callS (rv := some (.int r1)) (w' := w1) rfl rfl rfl h3).trans <|
    (runs_stps (q' := (78, [.ref 1, .int r1], [.int r1], w1)) 2 rfl).trans <|
    (runs_callS (rv := some (.int r2)) (w' := w2) rfl rfl rfl h4).trans <|
    (runs_if_t (a := 91) (b := 84) (L := [.ref 1, .int r1]) (st := []) (w := w2) rfl h5).trans <|
    (runs_stps (q' := (92, [.ref 1, .int r1], [.int r1], w2)) 1 rfl).trans <|
    (runs_callS (rv := some (.int r3)) (w' := w3) rfl rfl rfl h6).trans <|
    (runs_if_t (a := 105) (b := 98) (L := [.ref 1, .int r1]) (st := []) (w := w3) rfl h7).trans <|
    (runs_stps (q' := (109, [.ref 1, .int r1], [.int 59, .int r1, .ref 1], w3)) 3 rfl).trans <|
    (runs_if_t (a := 112) (b := 116) (L := [.ref 1, .int r1]) (st := [.ref 1]) (w := w3) rfl h8).trans <|
    (runs_stps (q' := (130, [.ref 1, .null], [], updI (updI w3 1 3 2) 1 2 ((w3.1 1 2) + 1))) 9 rfl).trans <|
    runs_ret rfl
theorem p_X3_readToken_0TTTF_R {ex : Ex} {r1 : Int32} {w1 : Wd} {r2 : Int32} {w2 : Wd} {r3 : Int32} {w3 : Wd} {w4 : Wd} {w : Wd} (h1 : (w.1 1 1) ≤ (w.1 1 2)) (h2 : (w.1 1 2) < (w.1 1 1)) (h3 : ex 133 [.ref 2, .int (w.1 1 2)] (updI w 1 4 (w.1 1 2)) = some (some (.int r1), w1)) (h4 : ex 36 [.int r1] w1 = some (some (.int r2), w2)) (h5 : r2 = 0) (h6 : ex 37 [.int r1] w2 = some (some (.int r3), w3)) (h7 : ¬ r3 = 0) (h8 : ex 34 [.ref 1] w3 = some (none, w4)) : runs (T_X3_readToken ex) (0, [.ref 1, .null], [], w) = some (none, w4) := 
    (runs_stps (q' := (8, [.ref 1, .null], [.int (w.1 1 1), .int (w.1 1 2)], w)) 4 rfl).trans <|
    (runs_if_t (a := 40) (b := 11) (L := [.ref 1, .null]) (st := []) (w := w) rfl h1).trans <|
    (runs_stps (q' := (56, [.ref 1, .null], [.int (w.1 1 1), .int (w.1 1 2)], updI w 1 4 (w.1 1 2))) 8 rfl).trans <|
    (runs_if_t (a := 65) (b := 59) (L := [.ref 1, .null]) (st := []) (w := updI w 1 4 (w.1 1 2)) rfl h2).trans <|
    (runs_stps (q' := (73, [.ref 1, .null], [.int (w.1 1 2), .ref 2], updI w 1 4 (w.1 1 2))) 4 rfl).trans <|
    (runs_callS (rv := some (.int r1)) (w' := w1) rfl rfl rfl h3).trans <|
    (runs_stps (q' := (78, [.ref 1, .int r1], [.int r1], w1)) 2 rfl).trans <|
    (runs_callS (rv := some (.int r2)) (w' := w2) rfl rfl rfl h4).trans <|
    (runs_if_t (a := 91) (b := 84) (L := [.ref 1, .int r1]) (st := []) (w := w2) rfl h5).trans <|
    (runs_stps (q' := (92, [.ref 1, .int r1], [.int r1], w2)) 1 rfl).trans <|
    (runs_callS (rv := some (.int r3)) (w' := w3) rfl rfl rfl h6).trans <|
    (runs_if_f (a := 105) (b := 98) (L := [.ref 1, .int r1]) (st := []) (w := w3) rfl h7).trans <|
    (runs_stps (q' := (99, [.ref 1, .int r1], [.ref 1], w3)) 1 rfl).trans <|
    (runs_callV (rv := none) (w' := w4) rfl rfl rfl rfl h8).trans <|
    (runs_stps (q' := (130, [.ref 1, .int r1], [], w4)) 1 rfl).trans <|
    runs_ret rfl
theorem p_X3_readToken_0TTF_R {ex : Ex} {r1 : Int32} {w1 : Wd} {r2 : Int32} {w2 : Wd} {w3 : Wd} {w : Wd} (h1 : (w.1 1 1) ≤ (w.1 1 2)) (h2 : (w.1 1 2) < (w.1 1 1)) (h3 : ex 133 [.ref 2, .int (w.1 1 2)] (updI w 1 4 (w.1 1 2)) = some (some (.int r1), w1)) (h4 : ex 36 [.int r1] w1 = some (some (.int r2), w2)) (h5 : ¬ r2 = 0) (h6 : ex 33 [.ref 1] w2 = some (none, w3)) : runs (T_X3_readToken ex) (0, [.ref 1, .null], [], w) = some (none, w3) := 
    (runs_stps (q' := (8, [.ref 1, .null], [.int (w.1 1 1), .int (w.1 1 2)], w)) 4 rfl).trans <|
    (runs_if_t (a := 40) (b := 11) (L := [.ref 1, .null]) (st := []) (w := w) rfl h1).trans <|
    (runs_stps (q' := (56, [.ref 1, .null], [.int (w.1 1 1), .int (w.1 1 2)], updI w 1 4 (w.1 1 2))) 8 rfl).trans <|
    (runs_if_t (a := 65) (b := 59) (L := [.ref 1, .null]) (st := []) (w := updI w 1 4 (w.1 1 2)) rfl h2).trans <|
    (runs_stps (q' := (73, [.ref 1, .null], [.int (w.1 1 2), .ref 2], updI w 1 4 (w.1 1 2))) 4 rfl).trans <|
    (runs_callS (rv := some (.int r1)) (w' := w1) rfl rfl rfl h3).trans <|
    (runs_stps (q' := (78, [.ref 1, .int r1], [.int r1], w1)) 2 rfl).trans <|
    (runs_callS (rv := some (.int r2)) (w' := w2) rfl rfl rfl h4).trans <|
    (runs_if_f (a := 91) (b := 84) (L := [.ref 1, .int r1]) (st := []) (w := w2) rfl h5).trans <|
    (runs_stps (q' := (85, [.ref 1, .int r1], [.ref 1], w2)) 1 rfl).trans <|
    (runs_callV (rv := none) (w' := w3) rfl rfl rfl rfl h6).trans <|
    (runs_stps (q' := (130, [.ref 1, .int r1], [], w3)) 1 rfl).trans <|
    runs_ret rfl
theorem p_X3_readToken_0TF_R {ex : Ex} {w : Wd} (h1 : (w.1 1 1) ≤ (w.1 1 2)) (h2 : ¬ (w.1 1 2) < (w.1 1 1)) : runs (T_X3_readToken ex) (0, [.ref 1, .null], [], w) = some (none, updI (updI w 1 4 (w.1 1 2)) 1 3 1) := 
    (runs_stps (q' := (8, [.ref 1, .null], [.int (w.1 1 1), .int (w.1 1 2)], w)) 4 rfl).trans <|
    (runs_if_t (a := 40) (b := 11) (L := [.ref 1, .null]) (st := []) (w := w) rfl h1).trans <|
    (runs_stps (q' := (56, [.ref 1, .null], [.int (w.1 1 1), .int (w.1 1 2)], updI w 1 4 (w.1 1 2))) 8 rfl).trans <|
    (runs_if_f (a := 65) (b := 59) (L := [.ref 1, .null]) (st := []) (w := updI w 1 4 (w.1 1 2)) rfl h2).trans <|
    (runs_stps (q' := (64, [.ref 1, .null], [], updI (updI w 1 4 (w.1 1 2)) 1 3 1)) 3 rfl).trans <|
    runs_ret rfl
theorem p_X3_readToken_0FTTTTT_R {ex : Ex} {r1 : Int32} {w1 : Wd} {r2 : Int32} {w2 : Wd} {r3 : Int32} {w3 : Wd} {r4 : Int32} {w4 : Wd} {w : Wd} (h1 : ¬ (w.1 1 1) ≤ (w.1 1 2)) (h2 : ex 133 [.ref 2, .int (w.1 1 2)] w = some (some (.int r1), w1)) (h3 : ¬ r1 = 32) (h4 : (w1.1 1 2) < (w1.1 1 1)) (h5 : ex 133 [.ref 2, .int (w1.1 1 2)] (updI w1 1 4 (w1.1 1 2)) = some (some (.int r2), w2)) (h6 : ex 36 [.int r2] w2 = some (some (.int r3), w3)) (h7 : r3 = 0) (h8 : ex 37 [.int r2] w3 = some (some (.int r4), w4)) (h9 : r4 = 0) (h10 : ¬ r2 = 59) : runs (T_X3_readToken ex) (0, [.ref 1, .null], [], w) = some (none, updI (updI w4 1 3 0) 1 2 ((w4.1 1 2) + 1)) := 
    (runs_stps (q' := (8, [.ref 1, .null], [.int (w.1 1 1), .int (w.1 1 2)], w)) 4 rfl).trans <|
    (runs_if_f (a := 40) (b := 11) (L := [.ref 1, .null]) (st := []) (w := w) rfl h1).trans <|
    (runs_stps (q' := (19, [.ref 1, .null], [.int (w.1 1 2), .ref 2], w)) 4 rfl).trans <|
    (runs_callS (rv := some (.int r1)) (w' := w1) rfl rfl rfl h2).trans <|
    (runs_stps (q' := (24, [.ref 1, .null], [.int 32, .int r1], w1)) 1 rfl).trans <|
    (runs_if_f (a := 27) (b := 40) (L := [.ref 1, .null]) (st := []) (w := w1) rfl h3).trans <|
    (runs_stps (q' := (56, [.ref 1, .null], [.int (w1.1 1 1), .int (w1.1 1 2)], updI w1 1 4 (w1.1 1 2))) 8 rfl).trans <|
    (runs_if_t (a := 65) (b := 59) (L := [.ref 1, .null]) (st := []) (w := updI w1 1 4 (w1.1 1 2)) rfl h4).trans <|
    (runs_stps (q' := (73, [.ref 1, .null], [.int (w1.1 1 2), .ref 2], updI w1 1 4 (w1.1 1 2))) 4 rfl).trans <|
    (runs_callS (rv := some (.int r2)) (w' := w2) rfl rfl rfl h5).trans <|
    (runs_stps (q' := (78, [.ref 1, .int r2], [.int r2], w2)) 2 rfl).trans <|
    (runs_callS (rv := some (.int r3)) (w' := w3) rfl rfl rfl h6).trans <|
    (runs_if_t (a := 91) (b := 84) (L := [.ref 1, .int r2]) (st := []) (w := w3) rfl h7).trans <|
    (runs_stps (q' := (92, [.ref 1, .int r2], [.int r2], w3)) 1 rfl).trans <|
    (runs_callS (rv := some (.int r4)) (w' := w4) rfl rfl rfl h8).trans <|
    (runs_if_t (a := 105) (b := 98) (L := [.ref 1, .int r2]) (st := []) (w := w4) rfl h9).trans <|
    (runs_stps (q' := (109, [.ref 1, .int r2], [.int 59, .int r2, .ref 1], w4)) 3 rfl).trans <|
    (runs_if_f (a := 112) (b := 116) (L := [.ref 1, .int r2]) (st := [.ref 1]) (w := w4) rfl h10).trans <|
    (runs_stps (q' := (130, [.ref 1, .null], [], updI (updI w4 1 3 0) 1 2 ((w4.1 1 2) + 1))) 8 rfl).trans <|
    runs_ret rfl
theorem p_X3_readToken_0FTTTTF_R {ex : Ex} {r1 : Int32} {w1 : Wd} {r2 : Int32} {w2 : Wd} {r3 : Int32} {w3 : Wd} {r4 : Int32} {w4 : Wd} {w : Wd} (h1 : ¬ (w.1 1 1) ≤ (w.1 1 2)) (h2 : ex 133 [.ref 2, .int (w.1 1 2)] w = some (some (.int r1), w1)) (h3 : ¬ r1 = 32) (h4 : (w1.1 1 2) < (w1.1 1 1)) (h5 : ex 133 [.ref 2, .int (w1.1 1 2)] (updI w1 1 4 (w1.1 1 2)) = some (some (.int r2), w2)) (h6 : ex 36 [.int r2] w2 = some (some (.int r3), w3)) (h7 : r3 = 0) (h8 : ex 37 [.int r2] w3 = some (some (.int r4), w4)) (h9 : r4 = 0) (h10 : r2 = 59) : runs (T_X3_readToken ex) (0, [.ref 1, .null], [], w) = some (none, updI (updI w4 1 3 2) 1 2 ((w4.1 1 2) + 1)) := 
    (runs_stps (q' := (8, [.ref 1, .null], [.int (w.1 1 1), .int (w.1 1 2)], w)) 4 rfl).trans <|
    (runs_if_f (a := 40) (b := 11) (L := [.ref 1, .null]) (st := []) (w := w) rfl h1).trans <|
    (runs_stps (q' := (19, [.ref 1, .null], [.int (w.1 1 2), .ref 2], w)) 4 rfl).trans <|
    (runs_callS (rv := some (.int r1)) (w' := w1) rfl rfl rfl h2).trans <|
    (runs_stps (q' := (24, [.ref 1, .null], [.int 32, .int r1], w1)) 1 rfl).trans <|
    (runs_if_f (a := 27) (b := 40) (L := [.ref 1, .null]) (st := []) (w := w1) rfl h3).trans <|
    (runs_stps (q' := (56, [.ref 1, .null], [.int (w1.1 1 1), .int (w1.1 1 2)], updI w1 1 4 (w1.1 1 2))) 8 rfl).trans <|
    (runs_if_t (a := 65) (b := 59) (L := [.ref 1, .null]) (st := []) (w := updI w1 1 4 (w1.1 1 2)) rfl h4).trans <|
    (runs_stps (q' := (73, [.ref 1, .null], [.int (w1.1 1 2), .ref 2], updI w1 1 4 (w1.1 1 2))) 4 rfl).trans <|
    (runs_callS (rv := some (.int r2)) (w' := w2) rfl rfl rfl h5).trans <|
    (runs_stps (q' := (78, [.ref 1, .int r2], [.int r2], w2)) 2 rfl).trans <|
    (runs_callS (rv := some (.int r3)) (w' := w3) rfl rfl rfl h6).trans <|
    (runs_if_t (a := 91) (b := 84) (L := [.ref 1, .int r2]) (st := []) (w := w3) rfl h7).trans <|
    (runs_stps (q' := (92, [.ref 1, .int r2], [.int r2], w3)) 1 rfl).trans <|
    (runs_callS (rv := some (.int r4)) (w' := w4) rfl rfl rfl h8).trans <|
    (runs_if_t (a := 105) (b := 98) (L := [.ref 1, .int r2]) (st := []) (w := w4) rfl h9).trans <|
    (runs_stps (q' := (109, [.ref 1, .int r2], [.int 59, .int r2, .ref 1], w4)) 3 rfl).trans <|
    (runs_if_t (a := 112) (b := 116) (L := [.ref 1, .int r2]) (st := [.ref 1]) (w := w4) rfl h10).trans <|
    (runs_stps (q' := (130, [.ref 1, .null], [], updI (updI w4 1 3 2) 1 2 ((w4.1 1 2) + 1))) 9 rfl).trans <|
    runs_ret rfl
theorem p_X3_readToken_0FTTTF_R {ex : Ex} {r1 : Int32} {w1 : Wd} {r2 : Int32} {w2 : Wd} {r3 : Int32} {w3 : Wd} {r4 : Int32} {w4 : Wd} {w5 : Wd} {w : Wd} (h1 : ¬ (w.1 1 1) ≤ (w.1 1 2)) (h2 : ex 133 [.ref 2, .int (w.1 1 2)] w = some (some (.int r1), w1)) (h3 : ¬ r1 = 32) (h4 : (w1.1 1 2) < (w1.1 1 1)) (h5 : ex 133 [.ref 2, .int (w1.1 1 2)] (updI w1 1 4 (w1.1 1 2)) = some (some (.int r2), w2)) (h6 : ex 36 [.int r2] w2 = some (some (.int r3), w3)) (h7 : r3 = 0) (h8 : ex 37 [.int r2] w3 = some (some (.int r4), w4)) (h9 : ¬ r4 = 0) (h10 : ex 34 [.ref 1] w4 = some (none, w5)) : runs (T_X3_readToken ex) (0, [.ref 1, .null], [], w) = some (none, w5) := 
    (runs_stps (q' := (8, [.ref 1, .null], [.int (w.1 1 1), .int (w.1 1 2)], w)) 4 rfl).trans <|
    (runs_if_f (a := 40) (b := 11) (L := [.ref 1, .null]) (st := []) (w := w) rfl h1).trans <|
    (runs_stps (q' := (19, [.ref 1, .null], [.int (w.1 1 2), .ref 2], w)) 4 rfl).trans <|
    (runs_callS (rv := some (.int r1)) (w' := w1) rfl rfl rfl h2).trans <|
    (runs_stps (q' := (24, [.ref 1, .null], [.int 32, .int r1], w1)) 1 rfl).trans <|
    (runs_if_f (a := 27) (b := 40) (L := [.ref 1, .null]) (st := []) (w := w1) rfl h3).trans <|
    (runs_stps (q' := (56, [.ref 1, .null], [.int (w1.1 1 1), .int (w1.1 1 2)], updI w1 1 4 (w1.1 1 2))) 8 rfl).trans <|
    (runs_if_t (a := 65) (b := 59) (L := [.ref 1, .null]) (st := []) (w := updI w1 1 4 (w1.1 1 2)) rfl h4).trans <|
    (runs_stps (q' := (73, [.ref 1, .null], [.int (w1.1 1 2), .ref 2], updI w1 1 4 (w1.1 1 2))) 4 rfl).trans <|
    (runs_callS (rv := some (.int r2)) (w' := w2) rfl rfl rfl h5).trans <|
    (runs_stps (q' := (78, [.ref 1, .int r2], [.int r2], w2)) 2 rfl).trans <|
    (runs_callS (rv := some (.int r3)) (w' := w3) rfl rfl rfl h6).trans <|
    (runs_if_t (a := 91) (b := 84) (L := [.ref 1, .int r2]) (st := []) (w := w3) rfl h7).trans <|
    (runs_stps (q' := (92, [.ref 1, .int r2], [.int r2], w3)) 1 rfl).trans <|
    (runs_callS (rv := some (.int r4)) (w' := w4) rfl rfl rfl h8).trans <|
    (runs_if_f (a := 105) (b := 98) (L := [.ref 1, .int r2]) (st := []) (w := w4) rfl h9).trans <|
    (runs_stps (q' := (99, [.ref 1, .int r2], [.ref 1], w4)) 1 rfl).trans <|
    (runs_callV (rv := none) (w' := w5) rfl rfl rfl rfl h10).trans <|
    (runs_stps (q' := (130, [.ref 1, .int r2], [], w5)) 1 rfl).trans <|
    runs_ret rfl
theorem p_X3_readToken_0FTTF_R {ex : Ex} {r1 : Int32} {w1 : Wd} {r2 : Int32} {w2 : Wd} {r3 : Int32} {w3 : Wd} {w4 : Wd} {w : Wd} (h1 : ¬ (w.1 1 1) ≤ (w.1 1 2)) (h2 : ex 133 [.ref 2, .int (w.1 1 2)] w = some (some (.int r1), w1)) (h3 : ¬ r1 = 32) (h4 : (w1.1 1 2) < (w1.1 1 1)) (h5 : ex 133 [.ref 2, .int (w1.1 1 2)] (updI w1 1 4 (w1.1 1 2)) = some (some (.int r2), w2)) (h6 : ex 36 [.int r2] w2 = some (some (.int r3), w3)) (h7 : ¬ r3 = 0) (h8 : ex 33 [.ref 1] w3 = some (none, w4)) : runs (T_X3_readToken ex) (0, [.ref 1, .null], [], w) = some (none, w4) := 
    (runs_stps (q' := (8, [.ref 1, .null], [.int (w.1 1 1), .int (w.1 1 2)], w)) 4 rfl).trans <|
    (runs_if_f (a := 40) (b := 11) (L := [.ref 1, .null]) (st := []) (w := w) rfl h1).trans <|
    (runs_stps (q' := (19, [.ref 1, .null], [.int (w.1 1 2), .ref 2], w)) 4 rfl).trans <|
    (runs_callS (rv := some (.int r1)) (w' := w1) rfl rfl rfl h2).trans <|
    (runs_stps (q' := (24, [.ref 1, .null], [.int 32, .int r1], w1)) 1 rfl).trans <|
    (runs_if_f (a := 27) (b := 40) (L := [.ref 1, .null]) (st := []) (w := w1) rfl h3).trans <|
    (runs_stps (q' := (56, [.ref 1, .null], [.int (w1.1 1 1), .int (w1.1 1 2)], updI w1 1 4 (w1.1 1 2))) 8 rfl).trans <|
    (runs_if_t (a := 65) (b := 59) (L := [.ref 1, .null]) (st := []) (w := updI w1 1 4 (w1.1 1 2)) rfl h4).trans <|
    (runs_stps (q' := (73, [.ref 1, .null], [.int (w1.1 1 2), .ref 2], updI w1 1 4 (w1.1 1 2))) 4 rfl).trans <|
    (runs_callS (rv := some (.int r2)) (w' := w2) rfl rfl rfl h5).trans <|
    (runs_stps (q' := (78, [.ref 1, .int r2], [.int r2], w2)) 2 rfl).trans <|
    (runs_callS (rv := some (.int r3)) (w' := w3) rfl rfl rfl h6).trans <|
    (runs_if_f (a := 91) (b := 84) (L := [.ref 1, .int r2]) (st := []) (w := w3) rfl h7).trans <|
    (runs_stps (q' := (85, [.ref 1, .int r2], [.ref 1], w3)) 1 rfl).trans <|
    (runs_callV (rv := none) (w' := w4) rfl rfl rfl rfl h8).trans <|
    (runs_stps (q' := (130, [.ref 1, .int r2], [], w4)) 1 rfl).trans <|
    runs_ret rfl
theorem p_X3_readToken_0FTF_R {ex : Ex} {r1 : Int32} {w1 : Wd} {w : Wd} (h1 : ¬ (w.1 1 1) ≤ (w.1 1 2)) (h2 : ex 133 [.ref 2, .int (w.1 1 2)] w = some (some (.int r1), w1)) (h3 : ¬ r1 = 32) (h4 : ¬ (w1.1 1 2) < (w1.1 1 1)) : runs (T_X3_readToken ex) (0, [.ref 1, .null], [], w) = some (none, updI (updI w1 1 4 (w1.1 1 2)) 1 3 1) := 
    (runs_stps (q' := (8, [.ref 1, .null], [.int (w.1 1 1), .int (w.1 1 2)], w)) 4 rfl).trans <|
    (runs_if_f (a := 40) (b := 11) (L := [.ref 1, .null]) (st := []) (w := w) rfl h1).trans <|
    (runs_stps (q' := (19, [.ref 1, .null], [.int (w.1 1 2), .ref 2], w)) 4 rfl).trans <|
    (runs_callS (rv := some (.int r1)) (w' := w1) rfl rfl rfl h2).trans <|
    (runs_stps (q' := (24, [.ref 1, .null], [.int 32, .int r1], w1)) 1 rfl).trans <|
    (runs_if_f (a := 27) (b := 40) (L := [.ref 1, .null]) (st := []) (w := w1) rfl h3).trans <|
    (runs_stps (q' := (56, [.ref 1, .null], [.int (w1.1 1 1), .int (w1.1 1 2)], updI w1 1 4 (w1.1 1 2))) 8 rfl).trans <|
    (runs_if_f (a := 65) (b := 59) (L := [.ref 1, .null]) (st := []) (w := updI w1 1 4 (w1.1 1 2)) rfl h4).trans <|
    (runs_stps (q' := (64, [.ref 1, .null], [], updI (updI w1 1 4 (w1.1 1 2)) 1 3 1)) 3 rfl).trans <|
    runs_ret rfl
theorem p_X3_readToken_0FF_L0 {ex : Ex} {r1 : Int32} {w1 : Wd} {w : Wd} (h1 : ¬ (w.1 1 1) ≤ (w.1 1 2)) (h2 : ex 133 [.ref 2, .int (w.1 1 2)] w = some (some (.int r1), w1)) (h3 : r1 = 32) : runs (T_X3_readToken ex) (0, [.ref 1, .null], [], w) = runs (T_X3_readToken ex) (0, [.ref 1, .null], [], updI w1 1 2 ((w1.1 1 2) + 1)) := 
    (runs_stps (q' := (8, [.ref 1, .null], [.int (w.1 1 1), .int (w.1 1 2)], w)) 4 rfl).trans <|
    (runs_if_f (a := 40) (b := 11) (L := [.ref 1, .null]) (st := []) (w := w) rfl h1).trans <|
    (runs_stps (q' := (19, [.ref 1, .null], [.int (w.1 1 2), .ref 2], w)) 4 rfl).trans <|
    (runs_callS (rv := some (.int r1)) (w' := w1) rfl rfl rfl h2).trans <|
    (runs_stps (q' := (24, [.ref 1, .null], [.int 32, .int r1], w1)) 1 rfl).trans <|
    (runs_if_t (a := 27) (b := 40) (L := [.ref 1, .null]) (st := []) (w := w1) rfl h3).trans <|
    (runs_stps (q' := (0, [.ref 1, .null], [], updI w1 1 2 ((w1.1 1 2) + 1))) 7 rfl).trans <|
    rfl
theorem p_X3_readDigits_0_L5 {ex : Ex} {w : Wd} : runs (T_X3_readDigits ex) (0, [.ref 1, .null], [], w) = runs (T_X3_readDigits ex) (5, [.ref 1, .null], [], updI w 1 5 0) := 
    (runs_stps (q' := (5, [.ref 1, .null], [], updI w 1 5 0)) 3 rfl).trans <|
    rfl
theorem p_X3_readDigits_5TTT_R {ex : Ex} {v1 : Value} {r1 : Int32} {w1 : Wd} {w : Wd} (h1 : (w.1 1 1) ≤ (w.1 1 2)) (h2 : ex 133 [.ref 2, .int (w.1 1 4)] w = some (some (.int r1), w1)) (h3 : ¬ r1 = 48) (h4 : 99 < (w1.1 1 5)) : runs (T_X3_readDigits ex) (5, [.ref 1, v1], [], w) = some (none, updI w1 1 3 0) := 
    (runs_stps (q' := (13, [.ref 1, .null], [.int (w.1 1 1), .int (w.1 1 2)], w)) 4 rfl).trans <|
    (runs_if_t (a := 77) (b := 16) (L := [.ref 1, .null]) (st := []) (w := w) rfl h1).trans <|
    (runs_stps (q' := (85, [.ref 1, .null], [.int (w.1 1 4), .ref 2], w)) 4 rfl).trans <|
    (runs_callS (rv := some (.int r1)) (w' := w1) rfl rfl rfl h2).trans <|
    (runs_stps (q' := (90, [.ref 1, .null], [.int 48, .int r1], w1)) 1 rfl).trans <|
    (runs_if_f (a := 93) (b := 110) (L := [.ref 1, .null]) (st := []) (w := w1) rfl h3).trans <|
    (runs_stps (q' := (119, [.ref 1, .int 0], [.int 99, .int (w1.1 1 5), .ref 1], w1)) 6 rfl).trans <|
    (runs_if_t (a := 126) (b := 122) (L := [.ref 1, .int 0]) (st := [.ref 1]) (w := w1) rfl h4).trans <|
    (runs_stps (q' := (134, [.null, .null], [], updI w1 1 3 0)) 3 rfl).trans <|
    runs_ret rfl
theorem p_X3_readDigits_5TTFT_R {ex : Ex} {v1 : Value} {r1 : Int32} {w1 : Wd} {w : Wd} (h1 : (w.1 1 1) ≤ (w.1 1 2)) (h2 : ex 133 [.ref 2, .int (w.1 1 4)] w = some (some (.int r1), w1)) (h3 : ¬ r1 = 48) (h4 : ¬ 99 < (w1.1 1 5)) (h5 : (0 : Int32) = 0) : runs (T_X3_readDigits ex) (5, [.ref 1, v1], [], w) = some (none, updI w1 1 3 3) := 
    (runs_stps (q' := (13, [.ref 1, .null], [.int (w.1 1 1), .int (w.1 1 2)], w)) 4 rfl).trans <|
    (runs_if_t (a := 77) (b := 16) (L := [.ref 1, .null]) (st := []) (w := w) rfl h1).trans <|
    (runs_stps (q' := (85, [.ref 1, .null], [.int (w.1 1 4), .ref 2], w)) 4 rfl).trans <|
    (runs_callS (rv := some (.int r1)) (w' := w1) rfl rfl rfl h2).trans <|
    (runs_stps (q' := (90, [.ref 1, .null], [.int 48, .int r1], w1)) 1 rfl).trans <|
    (runs_if_f (a := 93) (b := 110) (L := [.ref 1, .null]) (st := []) (w := w1) rfl h3).trans <|
    (runs_stps (q' := (119, [.ref 1, .int 0], [.int 99, .int (w1.1 1 5), .ref 1], w1)) 6 rfl).trans <|
    (runs_if_f (a := 126) (b := 122) (L := [.ref 1, .int 0]) (st := [.ref 1]) (w := w1) rfl h4).trans <|
    (runs_stps (q' := (123, [.ref 1, .int 0], [.int 0, .ref 1], w1)) 1 rfl).trans <|
    (runs_if_t (a := 130) (b := 126) (L := [.ref 1, .int 0]) (st := [.ref 1]) (w := w1) rfl h5).trans <|
    (runs_stps (q' := (134, [.null, .null], [], updI w1 1 3 3)) 2 rfl).trans <|
    runs_ret rfl
theorem p_X3_readDigits_5TTFF_R {ex : Ex} {v1 : Value} {r1 : Int32} {w1 : Wd} {w : Wd} (h1 : (w.1 1 1) ≤ (w.1 1 2)) (h2 : ex 133 [.ref 2, .int (w.1 1 4)] w = some (some (.int r1), w1)) (h3 : ¬ r1 = 48) (h4 : ¬ 99 < (w1.1 1 5)) (h5 : ¬ (0 : Int32) = 0) : runs (T_X3_readDigits ex) (5, [.ref 1, v1], [], w) = some (none, updI w1 1 3 0) := 
    (runs_stps (q' := (13, [.ref 1, .null], [.int (w.1 1 1), .int (w.1 1 2)], w)) 4 rfl).trans <|
    (runs_if_t (a := 77) (b := 16) (L := [.ref 1, .null]) (st := []) (w := w) rfl h1).trans <|
    (runs_stps (q' := (85, [.ref 1, .null], [.int (w.1 1 4), .ref 2], w)) 4 rfl).trans <|
    (runs_callS (rv := some (.int r1)) (w' := w1) rfl rfl rfl h2).trans <|
    (runs_stps (q' := (90, [.ref 1, .null], [.int 48, .int r1], w1)) 1 rfl).trans <|
    (runs_if_f (a := 93) (b := 110) (L := [.ref 1, .null]) (st := []) (w := w1) rfl h3).trans <|
    (runs_stps (q' := (119, [.ref 1, .int 0], [.int 99, .int (w1.1 1 5), .ref 1], w1)) 6 rfl).trans <|
    (runs_if_f (a := 126) (b := 122) (L := [.ref 1, .int 0]) (st := [.ref 1]) (w := w1) rfl h4).trans <|
    (runs_stps (q' := (123, [.ref 1, .int 0], [.int 0, .ref 1], w1)) 1 rfl).trans <|
    (runs_if_f (a := 130) (b := 126) (L := [.ref 1, .int 0]) (st := [.ref 1]) (w := w1) rfl h5).trans <|
    (runs_stps (q' := (134, [.null, .null], [], updI w1 1 3 0)) 3 rfl).trans <|
    runs_ret rfl
theorem p_X3_readDigits_5TFTT_R {ex : Ex} {v1 : Value} {r1 : Int32} {w1 : Wd} {w : Wd} (h1 : (w.1 1 1) ≤ (w.1 1 2)) (h2 : ex 133 [.ref 2, .int (w.1 1 4)] w = some (some (.int r1), w1)) (h3 : r1 = 48) (h4 : (w1.1 1 2) ≤ ((w1.1 1 4) + 1)) (h5 : 99 < (w1.1 1 5)) : runs (T_X3_readDigits ex) (5, [.ref 1, v1], [], w) = some (none, updI w1 1 3 0) := 
    (runs_stps (q' := (13, [.ref 1, .null], [.int (w.1 1 1), .int (w.1 1 2)], w)) 4 rfl).trans <|
    (runs_if_t (a := 77) (b := 16) (L := [.ref 1, .null]) (st := []) (w := w) rfl h1).trans <|
    (runs_stps (q' := (85, [.ref 1, .null], [.int (w.1 1 4), .ref 2], w)) 4 rfl).trans <|
    (runs_callS (rv := some (.int r1)) (w' := w1) rfl rfl rfl h2).trans <|
    (runs_stps (q' := (90, [.ref 1, .null], [.int 48, .int r1], w1)) 1 rfl).trans <|
    (runs_if_t (a := 93) (b := 110) (L := [.ref 1, .null]) (st := []) (w := w1) rfl h3).trans <|
    (runs_stps (q' := (103, [.ref 1, .null], [.int ((w1.1 1 4) + 1), .int (w1.1 1 2)], w1)) 6 rfl).trans <|
    (runs_if_t (a := 110) (b := 106) (L := [.ref 1, .null]) (st := []) (w := w1) rfl h4).trans <|
    (runs_stps (q' := (119, [.ref 1, .int 0], [.int 99, .int (w1.1 1 5), .ref 1], w1)) 6 rfl).trans <|
    (runs_if_t (a := 126) (b := 122) (L := [.ref 1, .int 0]) (st := [.ref 1]) (w := w1) rfl h5).trans <|
    (runs_stps (q' := (134, [.null, .null], [], updI w1 1 3 0)) 3 rfl).trans <|
    runs_ret rfl
theorem p_X3_readDigits_5TFTFT_R {ex : Ex} {v1 : Value} {r1 : Int32} {w1 : Wd} {w : Wd} (h1 : (w.1 1 1) ≤ (w.1 1 2)) (h2 : ex 133 [.ref 2, .int (w.1 1 4)] w = some (some (.int r1), w1)) (h3 : r1 = 48) (h4 : (w1.1 1 2) ≤ ((w1.1 1 4) + 1)) (h5 : ¬ 99 < (w1.1 1 5)) (h6 : (0 : Int32) = 0) : runs (T_X3_readDigits ex) (5, [.ref 1, v1], [], w) = some (none, updI w1 1 3 3) := 
    (runs_stps (q' := (13, [.ref 1, .null], [.int (w.1 1 1), .int (w.1 1 2)], w)) 4 rfl).trans <|
    (runs_if_t (a := 77) (b := 16) (L := [.ref 1, .null]) (st := []) (w := w) rfl h1).trans <|
    (runs_stps (q' := (85, [.ref 1, .null], [.int (w.1 1 4), .ref 2], w)) 4 rfl).trans <|
    (runs_callS (rv := some (.int r1)) (w' := w1) rfl rfl rfl h2).trans <|
    (runs_stps (q' := (90, [.ref 1, .null], [.int 48, .int r1], w1)) 1 rfl).trans <|
    (runs_if_t (a := 93) (b := 110) (L := [.ref 1, .null]) (st := []) (w := w1) rfl h3).trans <|
    (runs_stps (q' := (103, [.ref 1, .null], [.int ((w1.1 1 4) + 1), .int (w1.1 1 2)], w1)) 6 rfl).trans <|
    (runs_if_t (a := 110) (b := 106) (L := [.ref 1, .null]) (st := []) (w := w1) rfl h4).trans <|
    (runs_stps (q' := (119, [.ref 1, .int 0], [.int 99, .int (w1.1 1 5), .ref 1], w1)) 6 rfl).trans <|
    (runs_if_f (a := 126) (b := 122) (L := [.ref 1, .int 0]) (st := [.ref 1]) (w := w1) rfl h5).trans <|
    (runs_stps (q' := (123, [.ref 1, .int 0], [.int 0, .ref 1], w1)) 1 rfl).trans <|
    (runs_if_t (a := 130) (b := 126) (L := [.ref 1, .int 0]) (st := [.ref 1]) (w := w1) rfl h6).trans <|
    (runs_stps (q' := (134, [.null, .null], [], updI w1 1 3 3)) 2 rfl).trans <|
    runs_ret rfl
theorem p_X3_readDigits_5TFTFF_R {ex : Ex} {v1 : Value} {r1 : Int32} {w1 : Wd} {w : Wd} (h1 : (w.1 1 1) ≤ (w.1 1 2)) (h2 : ex 133 [.ref 2, .int (w.1 1 4)] w = some (some (.int r1), w1)) (h3 : r1 = 48) (h4 : (w1.1 1 2) ≤ ((w1.1 1 4) + 1)) (h5 : ¬ 99 < (w1.1 1 5)) (h6 : ¬ (0 : Int32) = 0) : runs (T_X3_readDigits ex) (5, [.ref 1, v1], [], w) = some (none, updI w1 1 3 0) := 
    (runs_stps (q' := (13, [.ref 1, .null], [.int (w.1 1 1), .int (w.1 1 2)], w)) 4 rfl).trans <|
    (runs_if_t (a := 77) (b := 16) (L := [.ref 1, .null]) (st := []) (w := w) rfl h1).trans <|
    (runs_stps (q' := (85, [.ref 1, .null], [.int (w.1 1 4), .ref 2], w)) 4 rfl).trans <|
    (runs_callS (rv := some (.int r1)) (w' := w1) rfl rfl rfl h2).trans <|
    (runs_stps (q' := (90, [.ref 1, .null], [.int 48, .int r1], w1)) 1 rfl).trans <|
    (runs_if_t (a := 93) (b := 110) (L := [.ref 1, .null]) (st := []) (w := w1) rfl h3).trans <|
    (runs_stps (q' := (103, [.ref 1, .null], [.int ((w1.1 1 4) + 1), .int (w1.1 1 2)], w1)) 6 rfl).trans <|
    (runs_if_t (a := 110) (b := 106) (L := [.ref 1, .null]) (st := []) (w := w1) rfl h4).trans <|
    (runs_stps (q' := (119, [.ref 1, .int 0], [.int 99, .int (w1.1 1 5), .ref 1], w1)) 6 rfl).trans <|
    (runs_if_f (a := 126) (b := 122) (L := [.ref 1, .int 0]) (st := [.ref 1]) (w := w1) rfl h5).trans <|
    (runs_stps (q' := (123, [.ref 1, .int 0], [.int 0, .ref 1], w1)) 1 rfl).trans <|
    (runs_if_f (a := 130) (b := 126) (L := [.ref 1, .int 0]) (st := [.ref 1]) (w := w1) rfl h6).trans <|
    (runs_stps (q' := (134, [.null, .null], [], updI w1 1 3 0)) 3 rfl).trans <|
    runs_ret rfl
theorem p_X3_readDigits_5TFFT_R {ex : Ex} {v1 : Value} {r1 : Int32} {w1 : Wd} {w : Wd} (h1 : (w.1 1 1) ≤ (w.1 1 2)) (h2 : ex 133 [.ref 2, .int (w.1 1 4)] w = some (some (.int r1), w1)) (h3 : r1 = 48) (h4 : ¬ (w1.1 1 2) ≤ ((w1.1 1 4) + 1)) (h5 : 99 < (w1.1 1 5)) : runs (T_X3_readDigits ex) (5, [.ref 1, v1], [], w) = some (none, updI w1 1 3 0) := 
    (runs_stps (q' := (13, [.ref 1, .null], [.int (w.1 1 1), .int (w.1 1 2)], w)) 4 rfl).trans <|
    (runs_if_t (a := 77) (b := 16) (L := [.ref 1, .null]) (st := []) (w := w) rfl h1).trans <|
    (runs_stps (q' := (85, [.ref 1, .null], [.int (w.1 1 4), .ref 2], w)) 4 rfl).trans <|
    (runs_callS (rv := some (.int r1)) (w' := w1) rfl rfl rfl h2).trans <|
    (runs_stps (q' := (90, [.ref 1, .null], [.int 48, .int r1], w1)) 1 rfl).trans <|
    (runs_if_t (a := 93) (b := 110) (L := [.ref 1, .null]) (st := []) (w := w1) rfl h3).trans <|
    (runs_stps (q' := (103, [.ref 1, .null], [.int ((w1.1 1 4) + 1), .int (w1.1 1 2)], w1)) 6 rfl).trans <|
    (runs_if_f (a := 110) (b := 106) (L := [.ref 1, .null]) (st := []) (w := w1) rfl h4).trans <|
    (runs_stps (q' := (119, [.ref 1, .int 1], [.int 99, .int (w1.1 1 5), .ref 1], w1)) 7 rfl).trans <|
    (runs_if_t (a := 126) (b := 122) (L := [.ref 1, .int 1]) (st := [.ref 1]) (w := w1) rfl h5).trans <|
    (runs_stps (q' := (134, [.null, .null], [], updI w1 1 3 0)) 3 rfl).trans <|
    runs_ret rfl
theorem p_X3_readDigits_5TFFFT_R {ex : Ex} {v1 : Value} {r1 : Int32} {w1 : Wd} {w : Wd} (h1 : (w.1 1 1) ≤ (w.1 1 2)) (h2 : ex 133 [.ref 2, .int (w.1 1 4)] w = some (some (.int r1), w1)) (h3 : r1 = 48) (h4 : ¬ (w1.1 1 2) ≤ ((w1.1 1 4) + 1)) (h5 : ¬ 99 < (w1.1 1 5)) (h6 : (1 : Int32) = 0) : runs (T_X3_readDigits ex) (5, [.ref 1, v1], [], w) = some (none, updI w1 1 3 3) := 
    (runs_stps (q' := (13, [.ref 1, .null], [.int (w.1 1 1), .int (w.1 1 2)], w)) 4 rfl).trans <|
    (runs_if_t (a := 77) (b := 16) (L := [.ref 1, .null]) (st := []) (w := w) rfl h1).trans <|
    (runs_stps (q' := (85, [.ref 1, .null], [.int (w.1 1 4), .ref 2], w)) 4 rfl).trans <|
    (runs_callS (rv := some (.int r1)) (w' := w1) rfl rfl rfl h2).trans <|
    (runs_stps (q' := (90, [.ref 1, .null], [.int 48, .int r1], w1)) 1 rfl).trans <|
    (runs_if_t (a := 93) (b := 110) (L := [.ref 1, .null]) (st := []) (w := w1) rfl h3).trans <|
    (runs_stps (q' := (103, [.ref 1, .null], [.int ((w1.1 1 4) + 1), .int (w1.1 1 2)], w1)) 6 rfl).trans <|
    (runs_if_f (a := 110) (b := 106) (L := [.ref 1, .null]) (st := []) (w := w1) rfl h4).trans <|
    (runs_stps (q' := (119, [.ref 1, .int 1], [.int 99, .int (w1.1 1 5), .ref 1], w1)) 7 rfl).trans <|
    (runs_if_f (a := 126) (b := 122) (L := [.ref 1, .int 1]) (st := [.ref 1]) (w := w1) rfl h5).trans <|
    (runs_stps (q' := (123, [.ref 1, .int 1], [.int 1, .ref 1], w1)) 1 rfl).trans <|
    (runs_if_t (a := 130) (b := 126) (L := [.ref 1, .int 1]) (st := [.ref 1]) (w := w1) rfl h6).trans <|
    (runs_stps (q' := (134, [.null, .null], [], updI w1 1 3 3)) 2 rfl).trans <|
    runs_ret rfl
theorem p_X3_readDigits_5TFFFF_R {ex : Ex} {v1 : Value} {r1 : Int32} {w1 : Wd} {w : Wd} (h1 : (w.1 1 1) ≤ (w.1 1 2)) (h2 : ex 133 [.ref 2, .int (w.1 1 4)] w = some (some (.int r1), w1)) (h3 : r1 = 48) (h4 : ¬ (w1.1 1 2) ≤ ((w1.1 1 4) + 1)) (h5 : ¬ 99 < (w1.1 1 5)) (h6 : ¬ (1 : Int32) = 0) : runs (T_X3_readDigits ex) (5, [.ref 1, v1], [], w) = some (none, updI w1 1 3 0) := 
    (runs_stps (q' := (13, [.ref 1, .null], [.int (w.1 1 1), .int (w.1 1 2)], w)) 4 rfl).trans <|
    (runs_if_t (a := 77) (b := 16) (L := [.ref 1, .null]) (st := []) (w := w) rfl h1).trans <|
    (runs_stps (q' := (85, [.ref 1, .null], [.int (w.1 1 4), .ref 2], w)) 4 rfl).trans <|
    (runs_callS (rv := some (.int r1)) (w' := w1) rfl rfl rfl h2).trans <|
    (runs_stps (q' := (90, [.ref 1, .null], [.int 48, .int r1], w1)) 1 rfl).trans <|
    (runs_if_t (a := 93) (b := 110) (L := [.ref 1, .null]) (st := []) (w := w1) rfl h3).trans <|
    (runs_stps (q' := (103, [.ref 1, .null], [.int ((w1.1 1 4) + 1), .int (w1.1 1 2)], w1)) 6 rfl).trans <|
    (runs_if_f (a := 110) (b := 106) (L := [.ref 1, .null]) (st := []) (w := w1) rfl h4).trans <|
    (runs_stps (q' := (119, [.ref 1, .int 1], [.int 99, .int (w1.1 1 5), .ref 1], w1)) 7 rfl).trans <|
    (runs_if_f (a := 126) (b := 122) (L := [.ref 1, .int 1]) (st := [.ref 1]) (w := w1) rfl h5).trans <|
    (runs_stps (q' := (123, [.ref 1, .int 1], [.int 1, .ref 1], w1)) 1 rfl).trans <|
    (runs_if_f (a := 130) (b := 126) (L := [.ref 1, .int 1]) (st := [.ref 1]) (w := w1) rfl h6).trans <|
    (runs_stps (q' := (134, [.null, .null], [], updI w1 1 3 0)) 3 rfl).trans <|
    runs_ret rfl
theorem p_X3_readDigits_5FTTT_R {ex : Ex} {v1 : Value} {r1 : Int32} {w1 : Wd} {r2 : Int32} {w2 : Wd} {r3 : Int32} {w3 : Wd} {w : Wd} (h1 : ¬ (w.1 1 1) ≤ (w.1 1 2)) (h2 : ex 133 [.ref 2, .int (w.1 1 2)] w = some (some (.int r1), w1)) (h3 : ex 36 [.int r1] w1 = some (some (.int r2), w2)) (h4 : r2 = 0) (h5 : ex 133 [.ref 2, .int (w2.1 1 4)] w2 = some (some (.int r3), w3)) (h6 : ¬ r3 = 48) (h7 : 99 < (w3.1 1 5)) : runs (T_X3_readDigits ex) (5, [.ref 1, v1], [], w) = some (none, updI w3 1 3 0) := 
    (runs_stps (q' := (13, [.ref 1, .null], [.int (w.1 1 1), .int (w.1 1 2)], w)) 4 rfl).trans <|
    (runs_if_f (a := 77) (b := 16) (L := [.ref 1, .null]) (st := []) (w := w) rfl h1).trans <|
    (runs_stps (q' := (24, [.ref 1, .null], [.int (w.1 1 2), .ref 2], w)) 4 rfl).trans <|
    (runs_callS (rv := some (.int r1)) (w' := w1) rfl rfl rfl h2).trans <|
    (runs_callS (rv := some (.int r2)) (w' := w2) rfl rfl rfl h3).trans <|
    (runs_if_t (a := 77) (b := 33) (L := [.ref 1, .null]) (st := []) (w := w2) rfl h4).trans <|
    (runs_stps (q' := (85, [.ref 1, .null], [.int (w2.1 1 4), .ref 2], w2)) 4 rfl).trans <|
    (runs_callS (rv := some (.int r3)) (w' := w3) rfl rfl rfl h5).trans <|
    (runs_stps (q' := (90, [.ref 1, .null], [.int 48, .int r3], w3)) 1 rfl).trans <|
    (runs_if_f (a := 93) (b := 110) (L := [.ref 1, .null]) (st := []) (w := w3) rfl h6).trans <|
    (runs_stps (q' := (119, [.ref 1, .int 0], [.int 99, .int (w3.1 1 5), .ref 1], w3)) 6 rfl).trans <|
    (runs_if_t (a := 126) (b := 122) (L := [.ref 1, .int 0]) (st := [.ref 1]) (w := w3) rfl h7).trans <|
    (runs_stps (q' := (134, [.null, .null], [], updI w3 1 3 0)) 3 rfl).trans <|
    runs_ret rfl
theorem p_X3_readDigits_5FTTFT_R {ex : Ex} {v1 : Value} {r1 : Int32} {w1 : Wd} {r2 : Int32} {w2 : Wd} {r3 : Int32} {w3 : Wd} {w : Wd} (h1 : ¬ (w.1 1 1) ≤ (w.1 1 2)) (h2 : ex 133 [.ref 2, .int (w.1 1 2)] w = some (some (.int r1), w1)) (h3 : ex 36 [.int r1] w1 = some (some (.int r2), w2)) (h4 : r2 = 0) (h5 : ex 133 [.ref 2, .int (w2.1 1 4)] w2 = some (some (.int r3), w3)) (h6 : ¬ r3 = 48) (h7 : ¬ 99 < (w3.1 1 5)) (h8 : (0 : Int32) = 0) : runs (T_X3_readDigits ex) (5, [.ref 1, v1], [], w) = some (none, updI w3 1 3 3) := 
    (runs_stps (q' := (13, [.ref 1, .null], [.int (w.1 1 1), .int (w.1 1 2)], w)) 4 rfl).trans <|
    (runs_if_f (a := 77) (b := 16) (L := [.ref 1, .null]) (st := []) (w := w) rfl h1).trans <|
    (runs_stps (q' := (24, [.ref 1, .null], [.int (w.1 1 2), .ref 2], w)) 4 rfl).trans <|
    (runs_callS (rv := some (.int r1)) (w' := w1) rfl rfl rfl h2).trans <|
    (runs_callS (rv := some (.int r2)) (w' := w2) rfl rfl rfl h3).trans <|
    (runs_if_t (a := 77) (b := 33) (L := [.ref 1, .null]) (st := []) (w := w2) rfl h4).trans <|
    (runs_stps (q' := (85, [.ref 1, .null], [.int (w2.1 1 4), .ref 2], w2)) 4 rfl).trans <|
    (runs_callS (rv := some (.int r3)) (w' := w3) rfl rfl rfl h5).trans <|
    (runs_stps (q' := (90, [.ref 1, .null], [.int 48, .int r3], w3)) 1 rfl).trans <|
    (runs_if_f (a := 93) (b := 110) (L := [.ref 1, .null]) (st := []) (w := w3) rfl h6).trans <|
    (runs_stps (q' := (119, [.ref 1, .int 0], [.int 99, .int (w3.1 1 5), .ref 1], w3)) 6 rfl).trans <|
    (runs_if_f (a := 126) (b := 122) (L := [.ref 1, .int 0]) (st := [.ref 1]) (w := w3) rfl h7).trans <|
    (runs_stps (q' := (123, [.ref 1, .int 0], [.int 0, .ref 1], w3)) 1 rfl).trans <|
    (runs_if_t (a := 130) (b := 126) (L := [.ref 1, .int 0]) (st := [.ref 1]) (w := w3) rfl h8).trans <|
    (runs_stps (q' := (134, [.null, .null], [], updI w3 1 3 3)) 2 rfl).trans <|
    runs_ret rfl
theorem p_X3_readDigits_5FTTFF_R {ex : Ex} {v1 : Value} {r1 : Int32} {w1 : Wd} {r2 : Int32} {w2 : Wd} {r3 : Int32} {w3 : Wd} {w : Wd} (h1 : ¬ (w.1 1 1) ≤ (w.1 1 2)) (h2 : ex 133 [.ref 2, .int (w.1 1 2)] w = some (some (.int r1), w1)) (h3 : ex 36 [.int r1] w1 = some (some (.int r2), w2)) (h4 : r2 = 0) (h5 : ex 133 [.ref 2, .int (w2.1 1 4)] w2 = some (some (.int r3), w3)) (h6 : ¬ r3 = 48) (h7 : ¬ 99 < (w3.1 1 5)) (h8 : ¬ (0 : Int32) = 0) : runs (T_X3_readDigits ex) (5, [.ref 1, v1], [], w) = some (none, updI w3 1 3 0) := 
    (runs_stps (q' := (13, [.ref 1, .null], [.int (w.1 1 1), .int (w.1 1 2)], w)) 4 rfl).trans <|
    (runs_if_f (a := 77) (b := 16) (L := [.ref 1, .null]) (st := []) (w := w) rfl h1).trans <|
    (runs_stps (q' := (24, [.ref 1, .null], [.int (w.1 1 2), .ref 2], w)) 4 rfl).trans <|
    (runs_callS (rv := some (.int r1)) (w' := w1) rfl rfl rfl h2).trans <|
    (runs_callS (rv := some (.int r2)) (w' := w2) rfl rfl rfl h3).trans <|
    (runs_if_t (a := 77) (b := 33) (L := [.ref 1, .null]) (st := []) (w := w2) rfl h4).trans <|
    (runs_stps (q' := (85, [.ref 1, .null], [.int (w2.1 1 4), .ref 2], w2)) 4 rfl).trans <|
    (runs_callS (rv := some (.int r3)) (w' := w3) rfl rfl rfl h5).trans <|
    (runs_stps (q' := (90, [.ref 1, .null], [.int 48, .int r3], w3)) 1 rfl).trans <|
    (runs_if_f (a := 93) (b := 110) (L := [.ref 1, .null]) (st := []) (w := w3) rfl h6).trans <|
    (runs_stps (q' := (119, [.ref 1, .int 0], [.int 99, .int (w3.1 1 5), .ref 1], w3)) 6 rfl).trans <|
    (runs_if_f (a := 126) (b := 122) (L := [.ref 1, .int 0]) (st := [.ref 1]) (w := w3) rfl h7).trans <|
    (runs_stps (q' := (123, [.ref 1, .int 0], [.int 0, .ref 1], w3)) 1 rfl).trans <|
    (runs_if_f (a := 130) (b := 126) (L := [.ref 1, .int 0]) (st := [.ref 1]) (w := w3) rfl h8).trans <|
    (runs_stps (q' := (134, [.null, .null], [], updI w3 1 3 0)) 3 rfl).trans <|
    runs_ret rfl
theorem p_X3_readDigits_5FTFTT_R {ex : Ex} {v1 : Value} {r1 : Int32} {w1 : Wd} {r2 : Int32} {w2 : Wd} {r3 : Int32} {w3 : Wd} {w : Wd} (h1 : ¬ (w.1 1 1) ≤ (w.1 1 2)) (h2 : ex 133 [.ref 2, .int (w.1 1 2)] w = some (some (.int r1), w1)) (h3 : ex 36 [.int r1] w1 = some (some (.int r2), w2)) (h4 : r2 = 0) (h5 : ex 133 [.ref 2, .int (w2.1 1 4)] w2 = some (some (.int r3), w3)) (h6 : r3 = 48) (h7 : (w3.1 1 2) ≤ ((w3.1 1 4) + 1)) (h8 : 99 < (w3.1 1 5)) : runs (T_X3_readDigits ex) (5, [.ref 1, v1], [], w) = some (none, updI w3 1 3 0) := 
    (runs_stps (q' := (13, [.ref 1, .null], [.int (w.1 1 1), .int (w.1 1 2)], w)) 4 rfl).trans <|
    (runs_if_f (a := 77) (b := 16) (L := [.ref 1, .null]) (st := []) (w := w) rfl h1).trans <|
    (runs_stps (q' := (24, [.ref 1, .null], [.int (w.1 1 2), .ref 2], w)) 4 rfl).trans <|
    (runs_callS (rv := some (.int r1)) (w' := w1) rfl rfl rfl h2).trans <|
    (runs_callS (rv := some (.int r2)) (w' := w2) rfl rfl rfl h3).trans <|
    (runs_if_t (a := 77) (b := 33) (L := [.ref 1, .null]) (st := []) (w := w2) rfl h4).trans <|
    (runs_stps (q' := (85, [.ref 1, .null], [.int (w2.1 1 4), .ref 2], w2)) 4 rfl).trans <|
    (runs_callS (rv := some (.int r3)) (w' := w3) rfl rfl rfl h5).trans <|
    (runs_stps (q' := (90, [.ref 1, .null], [.int 48, .int r3], w3)) 1 rfl).trans <|
    (runs_if_t (a := 93) (b := 110) (L := [.ref 1, .null]) (st := []) (w := w3) rfl h6).trans <|
    (runs_stps (q' := (103, [.ref 1, .null], [.int ((w3.1 1 4) + 1), .int (w3.1 1 2)], w3)) 6 rfl).trans <|
    (runs_if_t (a := 110) (b := 106) (L := [.ref 1, .null]) (st := []) (w := w3) rfl h7).trans <|
    (runs_stps (q' := (119, [.ref 1, .int 0], [.int 99, .int (w3.1 1 5), .ref 1], w3)) 6 rfl).trans <|
    (runs_if_t (a := 126) (b := 122) (L := [.ref 1, .int 0]) (st := [.ref 1]) (w := w3) rfl h8).trans <|
    (runs_stps (q' := (134, [.null, .null], [], updI w3 1 3 0)) 3 rfl).trans <|
    runs_ret rfl
theorem p_X3_readDigits_5FTFTFT_R {ex : Ex} {v1 : Value} {r1 : Int32} {w1 : Wd} {r2 : Int32} {w2 : Wd} {r3 : Int32} {w3 : Wd} {w : Wd} (h1 : ¬ (w.1 1 1) ≤ (w.1 1 2)) (h2 : ex 133 [.ref 2, .int (w.1 1 2)] w = some (some (.int r1), w1)) (h3 : ex 36 [.int r1] w1 = some (some (.int r2), w2)) (h4 : r2 = 0) (h5 : ex 133 [.ref 2, .int (w2.1 1 4)] w2 = some (some (.int r3), w3)) (h6 : r3 = 48) (h7 : (w3.1 1 2) ≤ ((w3.1 1 4) + 1)) (h8 : ¬ 99 < (w3.1 1 5)) (h9 : (0 : Int32) = 0) : runs (T_X3_readDigits ex) (5, [.ref 1, v1], [], w) = some (none, updI w3 1 3 3) := 
    (runs_stps (q' := (13, [.ref 1, .null], [.int (w.1 1 1), .int (w.1 1 2)], w)) 4 rfl).trans <|
    (runs_if_f (a := 77) (b := 16) (L := [.ref 1, .null]) (st := []) (w := w) rfl h1).trans <|
    (runs_stps (q' := (24, [.ref 1, .null], [.int (w.1 1 2), .ref 2], w)) 4 rfl).trans <|
    (runs_callS (rv := some (.int r1)) (w' := w1) rfl rfl rfl h2).trans <|
    (runs_callS (rv := some (.int r2)) (w' := w2) rfl rfl rfl h3).trans <|
    (runs_if_t (a := 77) (b := 33) (L := [.ref 1, .null]) (st := []) (w := w2) rfl h4).trans <|
    (runs_stps (q' := (85, [.ref 1, .null], [.int (w2.1 1 4), .ref 2], w2)) 4 rfl).trans <|
    (runs_callS (rv := some (.int r3)) (w' := w3) rfl rfl rfl h5).trans <|
    (runs_stps (q' := (90, [.ref 1, .null], [.int 48, .int r3], w3)) 1 rfl).trans <|
    (runs_if_t (a := 93) (b := 110) (L := [.ref 1, .null]) (st := []) (w := w3) rfl h6).trans <|
    (runs_stps (q' := (103, [.ref 1, .null], [.int ((w3.1 1 4) + 1), .int (w3.1 1 2)], w3)) 6 rfl).trans <|
    (runs_if_t (a := 110) (b := 106) (L := [.ref 1, .null]) (st := []) (w := w3) rfl h7).trans <|
    (runs_stps (q' := (119, [.ref 1, .int 0], [.int 99, .int (w3.1 1 5), .ref 1], w3)) 6 rfl).trans <|
    (runs_if_f (a := 126) (b := 122) (L := [.ref 1, .int 0]) (st := [.ref 1]) (w := w3) rfl h8).trans <|
    (runs_stps (q' := (123, [.ref 1, .int 0], [.int 0, .ref 1], w3)) 1 rfl).trans <|
    (runs_if_t (a := 130) (b := 126) (L := [.ref 1, .int 0]) (st := [.ref 1]) (w := w3) rfl h9).trans <|
    (runs_stps (q' := (134, [.null, .null], [], updI w3 1 3 3)) 2 rfl).trans <|
    runs_ret rfl
theorem p_X3_readDigits_5FTFTFF_R {ex : Ex} {v1 : Value} {r1 : Int32} {w1 : Wd} {r2 : Int32} {w2 : Wd} {r3 : Int32} {w3 : Wd} {w : Wd} (h1 : ¬ (w.1 1 1) ≤ (w.1 1 2)) (h2 : ex 133 [.ref 2, .int (w.1 1 2)] w = some (some (.int r1), w1)) (h3 : ex 36 [.int r1] w1 = some (some (.int r2), w2)) (h4 : r2 = 0) (h5 : ex 133 [.ref 2, .int (w2.1 1 4)] w2 = some (some (.int r3), w3)) (h6 : r3 = 48) (h7 : (w3.1 1 2) ≤ ((w3.1 1 4) + 1)) (h8 : ¬ 99 < (w3.1 1 5)) (h9 : ¬ (0 : Int32) = 0) : runs (T_X3_readDigits ex) (5, [.ref 1, v1], [], w) = some (none, updI w3 1 3 0) := 
    (runs_stps (q' := (13, [.ref 1, .null], [.int (w.1 1 1), .int (w.1 1 2)], w)) 4 rfl).trans <|
    (runs_if_f (a := 77) (b := 16) (L := [.ref 1, .null]) (st := []) (w := w) rfl h1).trans <|
    (runs_stps (q' := (24, [.ref 1, .null], [.int (w.1 1 2), .ref 2], w)) 4 rfl).trans <|
    (runs_callS (rv := some (.int r1)) (w' := w1) rfl rfl rfl h2).trans <|
    (runs_callS (rv := some (.int r2)) (w' := w2) rfl rfl rfl h3).trans <|
    (runs_if_t (a := 77) (b := 33) (L := [.ref 1, .null]) (st := []) (w := w2) rfl h4).trans <|
    (runs_stps (q' := (85, [.ref 1, .null], [.int (w2.1 1 4), .ref 2], w2)) 4 rfl).trans <|
    (runs_callS (rv := some (.int r3)) (w' := w3) rfl rfl rfl h5).trans <|
    (runs_stps (q' := (90, [.ref 1, .null], [.int 48, .int r3], w3)) 1 rfl).trans <|
    (runs_if_t (a := 93) (b := 110) (L := [.ref 1, .null]) (st := []) (w := w3) rfl h6).trans <|
    (runs_stps (q' := (103, [.ref 1, .null], [.int ((w3.1 1 4) + 1), .int (w3.1 1 2)], w3)) 6 rfl).trans <|
    (runs_if_t (a := 110) (b := 106) (L := [.ref 1, .null]) (st := []) (w := w3) rfl h7).trans <|
    (runs_stps (q' := (119, [.ref 1, .int 0], [.int 99, .int (w3.1 1 5), .ref 1], w3)) 6 rfl).trans <|
    (runs_if_f (a := 126) (b := 122) (L := [.ref 1, .int 0]) (st := [.ref 1]) (w := w3) rfl h8).trans <|
    (runs_stps (q' := (123, [.ref 1, .int 0], [.int 0, .ref 1], w3)) 1 rfl).trans <|
    (runs_if_f (a := 130) (b := 126) (L := [.ref 1, .int 0]) (st := [.ref 1]) (w := w3) rfl h9).trans <|
    (runs_stps (q' := (134, [.null, .null], [], updI w3 1 3 0)) 3 rfl).trans <|
    runs_ret rfl
theorem p_X3_readDigits_5FTFFT_R {ex : Ex} {v1 : Value} {r1 : Int32} {w1 : Wd} {r2 : Int32} {w2 : Wd} {r3 : Int32} {w3 : Wd} {w : Wd} (h1 : ¬ (w.1 1 1) ≤ (w.1 1 2)) (h2 : ex 133 [.ref 2, .int (w.1 1 2)] w = some (some (.int r1), w1)) (h3 : ex 36 [.int r1] w1 = some (some (.int r2), w2)) (h4 : r2 = 0) (h5 : ex 133 [.ref 2, .int (w2.1 1 4)] w2 = some (some (.int r3), w3)) (h6 : r3 = 48) (h7 : ¬ (w3.1 1 2) ≤ ((w3.1 1 4) + 1)) (h8 : 99 < (w3.1 1 5)) : runs (T_X3_readDigits ex) (5, [.ref 1, v1], [], w) = some (none, updI w3 1 3 0) := 
    (runs_stps (q' := (13, [.ref 1, .null], [.int (w.1 1 1), .int (w.1 1 2)], w)) 4 rfl).trans <|
    (runs_if_f (a := 77) (b := 16) (L := [.ref 1, .null]) (st := []) (w := w) rfl h1).trans <|
    (runs_stps (q' := (24, [.ref 1, .null], [.int (w.1 1 2), .ref 2], w)) 4 rfl).trans <|
    (runs_callS (rv := some (.int r1)) (w' := w1) rfl rfl rfl h2).trans <|
    (runs_callS (rv := some (.int r2)) (w' := w2) rfl rfl rfl h3).trans <|
    (runs_if_t (a := 77) (b := 33) (L := [.ref 1, .null]) (st := []) (w := w2) rfl h4).trans <|
    (runs_stps (q' := (85, [.ref 1, .null], [.int (w2.1 1 4), .ref 2], w2)) 4 rfl).trans <|
    (runs_callS (rv := some (.int r3)) (w' := w3) rfl rfl rfl h5).trans <|
    (runs_stps (q' := (90, [.ref 1, .null], [.int 48, .int r3], w3)) 1 rfl).trans <|
    (runs_if_t (a := 93) (b := 110) (L := [.ref 1, .null]) (st := []) (w := w3) rfl h6).trans <|
    (runs_stps (q' := (103, [.ref 1, .null], [.int ((w3.1 1 4) + 1), .int (w3.1 1 2)], w3)) 6 rfl).trans <|
    (runs_if_f (a := 110) (b := 106) (L := [.ref 1, .null]) (st := []) (w := w3) rfl h7).trans <|
    (runs_stps (q' := (119, [.ref 1, .int 1], [.int 99, .int (w3.1 1 5), .ref 1], w3)) 7 rfl).trans <|
    (runs_if_t (a := 126) (b := 122) (L := [.ref 1, .int 1]) (st := [.ref 1]) (w := w3) rfl h8).trans <|
    (runs_stps (q' := (134, [.null, .null], [], updI w3 1 3 0)) 3 rfl).trans <|
    runs_ret rfl
theorem p_X3_readDigits_5FTFFFT_R {ex : Ex} {v1 : Value} {r1 : Int32} {w1 : Wd} {r2 : Int32} {w2 : Wd} {r3 : Int32} {w3 : Wd} {w : Wd} (h1 : ¬ (w.1 1 1) ≤ (w.1 1 2)) (h2 : ex 133 [.ref 2, .int (w.1 1 2)] w = some (some (.int r1), w1)) (h3 : ex 36 [.int r1] w1 = some (some (.int r2), w2)) (h4 : r2 = 0) (h5 : ex 133 [.ref 2, .int (w2.1 1 4)] w2 = some (some (.int r3), w3)) (h6 : r3 = 48) (h7 : ¬ (w3.1 1 2) ≤ ((w3.1 1 4) + 1)) (h8 : ¬ 99 < (w3.1 1 5)) (h9 : (1 : Int32) = 0) : runs (T_X3_readDigits ex) (5, [.ref 1, v1], [], w) = some (none, updI w3 1 3 3) := 
    (runs_stps (q' := (13, [.ref 1, .null], [.int (w.1 1 1), .int (w.1 1 2)], w)) 4 rfl).trans <|
    (runs_if_f (a := 77) (b := 16) (L := [.ref 1, .null]) (st := []) (w := w) rfl h1).trans <|
    (runs_stps (q' := (24, [.ref 1, .null], [.int (w.1 1 2), .ref 2], w)) 4 rfl).trans <|
    (runs_callS (rv := some (.int r1)) (w' := w1) rfl rfl rfl h2).trans <|
    (runs_callS (rv := some (.int r2)) (w' := w2) rfl rfl rfl h3).trans <|
    (runs_if_t (a := 77) (b := 33) (L := [.ref 1, .null]) (st := []) (w := w2) rfl h4).trans <|
    (runs_stps (q' := (85, [.ref 1, .null], [.int (w2.1 1 4), .ref 2], w2)) 4 rfl).trans <|
    (runs_callS (rv := some (.int r3)) (w' := w3) rfl rfl rfl h5).trans <|
    (runs_stps (q' := (90, [.ref 1, .null], [.int 48, .int r3], w3)) 1 rfl).trans <|
    (runs_if_t (a := 93) (b := 110) (L := [.ref 1, .null]) (st := []) (w := w3) rfl h6).trans <|
    (runs_stps (q' := (103, [.ref 1, .null], [.int ((w3.1 1 4) + 1), .int (w3.1 1 2)], w3)) 6 rfl).trans <|
    (runs_if_f (a := 110) (b := 106) (L := [.ref 1, .null]) (st := []) (w := w3) rfl h7).trans <|
    (runs_stps (q' := (119, [.ref 1, .int 1], [.int 99, .int (w3.1 1 5), .ref 1], w3)) 7 rfl).trans <|
    (runs_if_f (a := 126) (b := 122) (L := [.ref 1, .int 1]) (st := [.ref 1]) (w := w3) rfl h8).trans <|
    (runs_stps (q' := (123, [.ref 1, .int 1], [.int 1, .ref 1], w3)) 1 rfl).trans <|
    (runs_if_t (a := 130) (b := 126) (L := [.ref 1, .int 1]) (st := [.ref 1]) (w := w3) rfl h9).trans <|
    (runs_stps (q' := (134, [.null, .null], [], updI w3 1 3 3)) 2 rfl).trans <|
    runs_ret rfl
theorem p_X3_readDigits_5FTFFFF_R {ex : Ex} {v1 : Value} {r1 : Int32} {w1 : Wd} {r2 : Int32} {w2 : Wd} {r3 : Int32} {w3 : Wd} {w : Wd} (h1 : ¬ (w.1 1 1) ≤ (w.1 1 2)) (h2 : ex 133 [.ref 2, .int (w.1 1 2)] w = some (some (.int r1), w1)) (h3 : ex 36 [.int r1] w1 = some (some (.int r2), w2)) (h4 : r2 = 0) (h5 : ex 133 [.ref 2, .int (w2.1 1 4)] w2 = some (some (.int r3), w3)) (h6 : r3 = 48) (h7 : ¬ (w3.1 1 2) ≤ ((w3.1 1 4) + 1)) (h8 : ¬ 99 < (w3.1 1 5)) (h9 : ¬ (1 : Int32) = 0) : runs (T_X3_readDigits ex) (5, [.ref 1, v1], [], w) = some (none, updI w3 1 3 0) := 
    (runs_stps (q' := (13, [.ref 1, .null], [.int (w.1 1 1), .int (w.1 1 2)], w)) 4 rfl).trans <|
    (runs_if_f (a := 77) (b := 16) (L := [.ref 1, .null]) (st := []) (w := w) rfl h1).trans <|
    (runs_stps (q' := (24, [.ref 1, .null], [.int (w.1 1 2), .ref 2], w)) 4 rfl).trans <|
    (runs_callS (rv := some (.int r1)) (w' := w1) rfl rfl rfl h2).trans <|
    (runs_callS (rv := some (.int r2)) (w' := w2) rfl rfl rfl h3).trans <|
    (runs_if_t (a := 77) (b := 33) (L := [.ref 1, .null]) (st := []) (w := w2) rfl h4).trans <|
    (runs_stps (q' := (85, [.ref 1, .null], [.int (w2.1 1 4), .ref 2], w2)) 4 rfl).trans <|
    (runs_callS (rv := some (.int r3)) (w' := w3) rfl rfl rfl h5).trans <|
    (runs_stps (q' := (90, [.ref 1, .null], [.int 48, .int r3], w3)) 1 rfl).trans <|
    (runs_if_t (a := 93) (b := 110) (L := [.ref 1, .null]) (st := []) (w := w3) rfl h6).trans <|
    (runs_stps (q' := (103, [.ref 1, .null], [.int ((w3.1 1 4) + 1), .int (w3.1 1 2)], w3)) 6 rfl).trans <|
    (runs_if_f (a := 110) (b := 106) (L := [.ref 1, .null]) (st := []) (w := w3) rfl h7).trans <|
    (runs_stps (q' := (119, [.ref 1, .int 1], [.int 99, .int (w3.1 1 5), .ref 1], w3)) 7 rfl).trans <|
    (runs_if_f (a := 126) (b := 122) (L := [.ref 1, .int 1]) (st := [.ref 1]) (w := w3) rfl h8).trans <|
    (runs_stps (q' := (123, [.ref 1, .int 1], [.int 1, .ref 1], w3)) 1 rfl).trans <|
    (runs_if_f (a := 130) (b := 126) (L := [.ref 1, .int 1]) (st := [.ref 1]) (w := w3) rfl h9).trans <|
    (runs_stps (q' := (134, [.null, .null], [], updI w3 1 3 0)) 3 rfl).trans <|
    runs_ret rfl
theorem p_X3_readDigits_5FF_L5 {ex : Ex} {v1 : Value} {r1 : Int32} {w1 : Wd} {r2 : Int32} {w2 : Wd} {r3 : Int32} {w3 : Wd} {w : Wd} (h1 : ¬ (w.1 1 1) ≤ (w.1 1 2)) (h2 : ex 133 [.ref 2, .int (w.1 1 2)] w = some (some (.int r1), w1)) (h3 : ex 36 [.int r1] w1 = some (some (.int r2), w2)) (h4 : ¬ r2 = 0) (h5 : ex 133 [.ref 2, .int (w2.1 1 2)] w2 = some (some (.int r3), w3)) : runs (T_X3_readDigits ex) (5, [.ref 1, v1], [], w) = runs (T_X3_readDigits ex) (5, [.ref 1, .null], [], updI (updI w3 1 5 (if 100 < ((((w2.1 1 5) * 10) + r3) - 48) then 100 else ((((w2.1 1 5) * 10) + r3) - 48))) 1 2 ((w3.1 1 2) + 1)) := 
    (runs_stps (q' := (13, [.ref 1, .null], [.int (w.1 1 1), .int (w.1 1 2)], w)) 4 rfl).trans <|
    (runs_if_f (a := 77) (b := 16) (L := [.ref 1, .null]) (st := []) (w := w) rfl h1).trans <|
    (runs_stps (q' := (24, [.ref 1, .null], [.int (w.1 1 2), .ref 2], w)) 4 rfl).trans <|
    (runs_callS (rv := some (.int r1)) (w' := w1) rfl rfl rfl h2).trans <|
    (runs_callS (rv := some (.int r2)) (w' := w2) rfl rfl rfl h3).trans <|
    (runs_if_f (a := 77) (b := 33) (L := [.ref 1, .null]) (st := []) (w := w2) rfl h4).trans <|
    (runs_stps (q' := (49, [.ref 1, .null], [.int (w2.1 1 2), .ref 2, .int ((w2.1 1 5) * 10), .ref 1], w2)) 9 rfl).trans <|
    (runs_callS (rv := some (.int r3)) (w' := w3) rfl rfl rfl h5).trans <|
    (runs_stps (q' := (5, [.ref 1, .null], [], updI (updI w3 1 5 (if 100 < ((((w2.1 1 5) * 10) + r3) - 48) then 100 else ((((w2.1 1 5) * 10) + r3) - 48))) 1 2 ((w3.1 1 2) + 1))) 13 rfl).trans <|
    rfl
theorem p_X3_readLetters_0TTTTTTT_R {ex : Ex} {r1 : Int32} {w1 : Wd} {r2 : Int32} {w2 : Wd} {r3 : Int32} {w3 : Wd} {r4 : Int32} {w4 : Wd} {r5 : Int32} {w5 : Wd} {r6 : Int32} {w6 : Wd} {w : Wd} (h1 : (w.1 1 1) ≤ (w.1 1 2)) (h2 : ex 35 [.ref 1, .ref 100] w = some (some (.int r1), w1)) (h3 : r1 = 0) (h4 : ex 35 [.ref 1, .ref 101] w1 = some (some (.int r2), w2)) (h5 : r2 = 0) (h6 : ex 35 [.ref 1, .ref 102] w2 = some (some (.int r3), w3)) (h7 : r3 = 0) (h8 : ex 35 [.ref 1, .ref 103] w3 = some (some (.int r4), w4)) (h9 : r4 = 0) (h10 : ex 35 [.ref 1, .ref 104] w4 = some (some (.int r5), w5)) (h11 : r5 = 0) (h12 : ex 35 [.ref 1, .ref 105] w5 = some (some (.int r6), w6)) (h13 : r6 = 0) : runs (T_X3_readLetters ex) (0, [.ref 1], [], w) = some (none, updI w6 1 3 0) := 
    (runs_stps (q' := (8, [.ref 1], [.int (w.1 1 1), .int (w.1 1 2)], w)) 4 rfl).trans <|
    (runs_if_t (a := 41) (b := 11) (L := [.ref 1]) (st := []) (w := w) rfl h1).trans <|
    (runs_stps (q' := (44, [.ref 1], [.ref 100, .ref 1], w)) 2 rfl).trans <|
    (runs_callV (rv := some (.int r1)) (w' := w1) rfl rfl rfl rfl h2).trans <|
    (runs_if_t (a := 58) (b := 50) (L := [.ref 1]) (st := []) (w := w1) rfl h3).trans <|
    (runs_stps (q' := (61, [.ref 1], [.ref 101, .ref 1], w1)) 2 rfl).trans <|
    (runs_callV (rv := some (.int r2)) (w' := w2) rfl rfl rfl rfl h4).trans <|
    (runs_if_t (a := 75) (b := 67) (L := [.ref 1]) (st := []) (w := w2) rfl h5).trans <|
    (runs_stps (q' := (78, [.ref 1], [.ref 102, .ref 1], w2)) 2 rfl).trans <|
    (runs_callV (rv := some (.int r3)) (w' := w3) rfl rfl rfl rfl h6).trans <|
    (runs_if_t (a := 93) (b := 84) (L := [.ref 1]) (st := []) (w := w3) rfl h7).trans <|
    (runs_stps (q' := (96, [.ref 1], [.ref 103, .ref 1], w3)) 2 rfl).trans <|
    (runs_callV (rv := some (.int r4)) (w' := w4) rfl rfl rfl rfl h8).trans <|
    (runs_if_t (a := 111) (b := 102) (L := [.ref 1]) (st := []) (w := w4) rfl h9).trans <|
    (runs_stps (q' := (114, [.ref 1], [.ref 104, .ref 1], w4)) 2 rfl).trans <|
    (runs_callV (rv := some (.int r5)) (w' := w5) rfl rfl rfl rfl h10).trans <|
    (runs_if_t (a := 129) (b := 120) (L := [.ref 1]) (st := []) (w := w5) rfl h11).trans <|
    (runs_stps (q' := (133, [.ref 1], [.ref 105, .ref 1, .ref 1], w5)) 3 rfl).trans <|
    (runs_callV (rv := some (.int r6)) (w' := w6) rfl rfl rfl rfl h12).trans <|
    (runs_if_t (a := 144) (b := 139) (L := [.ref 1]) (st := [.ref 1]) (w := w6) rfl h13).trans <|
    (runs_stps (q' := (148, [.null], [], updI w6 1 3 0)) 2 rfl).trans <|
    runs_ret rfl
theorem p_X3_readLetters_0TTTTTTF_R {ex : Ex} {r1 : Int32} {w1 : Wd} {r2 : Int32} {w2 : Wd} {r3 : Int32} {w3 : Wd} {r4 : Int32} {w4 : Wd} {r5 : Int32} {w5 : Wd} {r6 : Int32} {w6 : Wd} {w : Wd} (h1 : (w.1 1 1) ≤ (w.1 1 2)) (h2 : ex 35 [.ref 1, .ref 100] w = some (some (.int r1), w1)) (h3 : r1 = 0) (h4 : ex 35 [.ref 1, .ref 101] w1 = some (some (.int r2), w2)) (h5 : r2 = 0) (h6 : ex 35 [.ref 1, .ref 102] w2 = some (some (.int r3), w3)) (h7 : r3 = 0) (h8 : ex 35 [.ref 1, .ref 103] w3 = some (some (.int r4), w4)) (h9 : r4 = 0) (h10 : ex 35 [.ref 1, .ref 104] w4 = some (some (.int r5), w5)) (h11 : r5 = 0) (h12 : ex 35 [.ref 1, .ref 105] w5 = some (some (.int r6), w6)) (h13 : ¬ r6 = 0) : runs (T_X3_readLetters ex) (0, [.ref 1], [], w) = some (none, updI w6 1 3 9) := 
    (runs_stps (q' := (8, [.ref 1], [.int (w.1 1 1), .int (w.1 1 2)], w)) 4 rfl).trans <|
    (runs_if_t (a := 41) (b := 11) (L := [.ref 1]) (st := []) (w := w) rfl h1).trans <|
    (runs_stps (q' := (44, [.ref 1], [.ref 100, .ref 1], w)) 2 rfl).trans <|
    (runs_callV (rv := some (.int r1)) (w' := w1) rfl rfl rfl rfl h2).trans <|
    (runs_if_t (a := 58) (b := 50) (L := [.ref 1]) (st := []) (w := w1) rfl h3).trans <|
    (runs_stps (q' := (61, [.ref 1], [.ref 101, .ref 1], w1)) 2 rfl).trans <|
    (runs_callV (rv := some (.int r2)) (w' := w2) rfl rfl rfl rfl h4).trans <|
    (runs_if_t (a := 75) (b := 67) (L := [.ref 1]) (st := []) (w := w2) rfl h5).trans <|
    (runs_stps (q' := (78, [.ref 1], [.ref 102, .ref 1], w2)) 2 rfl).trans <|
    (runs_callV (rv := some (.int r3)) (w' := w3) rfl rfl rfl rfl h6).trans <|
    (runs_if_t (a := 93) (b := 84) (L := [.ref 1]) (st := []) (w := w3) rfl h7).trans <|
    (runs_stps (q' := (96, [.ref 1], [.ref 103, .ref 1], w3)) 2 rfl).trans <|
    (runs_callV (rv := some (.int r4)) (w' := w4) rfl rfl rfl rfl h8).trans <|
    (runs_if_t (a := 111) (b := 102) (L := [.ref 1]) (st := []) (w := w4) rfl h9).trans <|
    (runs_stps (q' := (114, [.ref 1], [.ref 104, .ref 1], w4)) 2 rfl).trans <|
    (runs_callV (rv := some (.int r5)) (w' := w5) rfl rfl rfl rfl h10).trans <|
    (runs_if_t (a := 129) (b := 120) (L := [.ref 1]) (st := []) (w := w5) rfl h11).trans <|
    (runs_stps (q' := (133, [.ref 1], [.ref 105, .ref 1, .ref 1], w5)) 3 rfl).trans <|
    (runs_callV (rv := some (.int r6)) (w' := w6) rfl rfl rfl rfl h12).trans <|
    (runs_if_f (a := 144) (b := 139) (L := [.ref 1]) (st := [.ref 1]) (w := w6) rfl h13).trans <|
    (runs_stps (q' := (148, [.null], [], updI w6 1 3 9)) 3 rfl).trans <|
    runs_ret rfl
theorem p_X3_readLetters_0TTTTTF_R {ex : Ex} {r1 : Int32} {w1 : Wd} {r2 : Int32} {w2 : Wd} {r3 : Int32} {w3 : Wd} {r4 : Int32} {w4 : Wd} {r5 : Int32} {w5 : Wd} {w : Wd} (h1 : (w.1 1 1) ≤ (w.1 1 2)) (h2 : ex 35 [.ref 1, .ref 100] w = some (some (.int r1), w1)) (h3 : r1 = 0) (h4 : ex 35 [.ref 1, .ref 101] w1 = some (some (.int r2), w2)) (h5 : r2 = 0) (h6 : ex 35 [.ref 1, .ref 102] w2 = some (some (.int r3), w3)) (h7 : r3 = 0) (h8 : ex 35 [.ref 1, .ref 103] w3 = some (some (.int r4), w4)) (h9 : r4 = 0) (h10 : ex 35 [.ref 1, .ref 104] w4 = some (some (.int r5), w5)) (h11 : ¬ r5 = 0) : runs (T_X3_readLetters ex) (0, [.ref 1], [], w) = some (none, updI w5 1 3 8) := 
    (runs_stps (q' := (8, [.ref 1], [.int (w.1 1 1), .int (w.1 1 2)], w)) 4 rfl).trans <|
    (runs_if_t (a := 41) (b := 11) (L := [.ref 1]) (st := []) (w := w) rfl h1).trans <|
    (runs_stps (q' := (44, [.ref 1], [.ref 100, .ref 1], w)) 2 rfl).trans <|
    (runs_callV (rv := some (.int r1)) (w' := w1) rfl rfl rfl rfl h2).trans <|
    (runs_if_t (a := 58) (b := 50) (L := [.ref 1]) (st := []) (w := w1) rfl h3).trans <|
    (runs_stps (q' := (61, [.ref 1], [.ref 101, .ref 1], w1)) 2 rfl).trans <|
    (runs_callV (rv := some (.int r2)) (w' := w2) rfl rfl rfl rfl h4).trans <|
    (runs_if_t (a := 75) (b := 67) (L := [.ref 1]) (st := []) (w := w2) rfl h5).trans <|
    (runs_stps (q' := (78, [.ref 1], [.ref 102, .ref 1], w2)) 2 rfl).trans <|
    (runs_callV (rv := some (.int r3)) (w' := w3) rfl rfl rfl rfl h6).trans <|
    (runs_if_t (a := 93) (b := 84) (L := [.ref 1]) (st := []) (w := w3) rfl h7).trans <|
    (runs_stps (q' := (96, [.ref 1], [.ref 103, .ref 1], w3)) 2 rfl).trans <|
    (runs_callV (rv := some (.int r4)) (w' := w4) rfl rfl rfl rfl h8).trans <|
    (runs_if_t (a := 111) (b := 102) (L := [.ref 1]) (st := []) (w := w4) rfl h9).trans <|
    (runs_stps (q' := (114, [.ref 1], [.ref 104, .ref 1], w4)) 2 rfl).trans <|
    (runs_callV (rv := some (.int r5)) (w' := w5) rfl rfl rfl rfl h10).trans <|
    (runs_if_f (a := 129) (b := 120) (L := [.ref 1]) (st := []) (w := w5) rfl h11).trans <|
    (runs_stps (q' := (148, [.ref 1], [], updI w5 1 3 8)) 4 rfl).trans <|
    runs_ret rfl
theorem p_X3_readLetters_0TTTTF_R {ex : Ex} {r1 : Int32} {w1 : Wd} {r2 : Int32} {w2 : Wd} {r3 : Int32} {w3 : Wd} {r4 : Int32} {w4 : Wd} {w : Wd} (h1 : (w.1 1 1) ≤ (w.1 1 2)) (h2 : ex 35 [.ref 1, .ref 100] w = some (some (.int r1), w1)) (h3 : r1 = 0) (h4 : ex 35 [.ref 1, .ref 101] w1 = some (some (.int r2), w2)) (h5 : r2 = 0) (h6 : ex 35 [.ref 1, .ref 102] w2 = some (some (.int r3), w3)) (h7 : r3 = 0) (h8 : ex 35 [.ref 1, .ref 103] w3 = some (some (.int r4), w4)) (h9 : ¬ r4 = 0) : runs (T_X3_readLetters ex) (0, [.ref 1], [], w) = some (none, updI w4 1 3 7) := 
    (runs_stps (q' := (8, [.ref 1], [.int (w.1 1 1), .int (w.1 1 2)], w)) 4 rfl).trans <|
    (runs_if_t (a := 41) (b := 11) (L := [.ref 1]) (st := []) (w := w) rfl h1).trans <|
    (runs_stps (q' := (44, [.ref 1], [.ref 100, .ref 1], w)) 2 rfl).trans <|
    (runs_callV (rv := some (.int r1)) (w' := w1) rfl rfl rfl rfl h2).trans <|
    (runs_if_t (a := 58) (b := 50) (L := [.ref 1]) (st := []) (w := w1) rfl h3).trans <|
    (runs_stps (q' := (61, [.ref 1], [.ref 101, .ref 1], w1)) 2 rfl).trans <|
    (runs_callV (rv := some (.int r2)) (w' := w2) rfl rfl rfl rfl h4).trans <|
    (runs_if_t (a := 75) (b := 67) (L := [.ref 1]) (st := []) (w := w2) rfl h5).trans <|
    (runs_stps (q' := (78, [.ref 1], [.ref 102, .ref 1], w2)) 2 rfl).trans <|
    (runs_callV (rv := some (.int r3)) (w' := w3) rfl rfl rfl rfl h6).trans <|
    (runs_if_t (a := 93) (b := 84) (L := [.ref 1]) (st := []) (w := w3) rfl h7).trans <|
    (runs_stps (q' := (96, [.ref 1], [.ref 103, .ref 1], w3)) 2 rfl).trans <|
    (runs_callV (rv := some (.int r4)) (w' := w4) rfl rfl rfl rfl h8).trans <|
    (runs_if_f (a := 111) (b := 102) (L := [.ref 1]) (st := []) (w := w4) rfl h9).trans <|
    (runs_stps (q' := (148, [.ref 1], [], updI w4 1 3 7)) 4 rfl).trans <|
    runs_ret rfl
theorem p_X3_readLetters_0TTTF_R {ex : Ex} {r1 : Int32} {w1 : Wd} {r2 : Int32} {w2 : Wd} {r3 : Int32} {w3 : Wd} {w : Wd} (h1 : (w.1 1 1) ≤ (w.1 1 2)) (h2 : ex 35 [.ref 1, .ref 100] w = some (some (.int r1), w1)) (h3 : r1 = 0) (h4 : ex 35 [.ref 1, .ref 101] w1 = some (some (.int r2), w2)) (h5 : r2 = 0) (h6 : ex 35 [.ref 1, .ref 102] w2 = some (some (.int r3), w3)) (h7 : ¬ r3 = 0) : runs (T_X3_readLetters ex) (0, [.ref 1], [], w) = some (none, updI w3 1 3 6) := 
    (runs_stps (q' := (8, [.ref 1], [.int (w.1 1 1), .int (w.1 1 2)], w)) 4 rfl).trans <|
    (runs_if_t (a := 41) (b := 11) (L := [.ref 1]) (st := []) (w := w) rfl h1).trans <|
    (runs_stps (q' := (44, [.ref 1], [.ref 100, .ref 1], w)) 2 rfl).trans <|
    (runs_callV (rv := some (.int r1)) (w' := w1) rfl rfl rfl rfl h2).trans <|
    (runs_if_t (a := 58) (b := 50) (L := [.ref 1]) (st := []) (w := w1) rfl h3).trans <|
    (runs_stps (q' := (61, [.ref 1], [.ref 101, .ref 1], w1)) 2 rfl).trans <|
    (runs_callV (rv := some (.int r2)) (w' := w2) rfl rfl rfl rfl h4).trans <|
    (runs_if_t (a := 75) (b := 67) (L := [.ref 1]) (st := []) (w := w2) rfl h5).trans <|
    (runs_stps (q' := (78, [.ref 1], [.ref 102, .ref 1], w2)) 2 rfl).trans <|
    (runs_callV (rv := some (.int r3)) (w' := w3) rfl rfl rfl rfl h6).trans <|
    (runs_if_f (a := 93) (b := 84) (L := [.ref 1]) (st := []) (w := w3) rfl h7).trans <|
    (runs_stps (q' := (148, [.ref 1], [], updI w3 1 3 6)) 4 rfl).trans <|
    runs_ret rfl
theorem p_X3_readLetters_0TTF_R {ex : Ex} {r1 : Int32} {w1 : Wd} {r2 : Int32} {w2 : Wd} {w : Wd} (h1 : (w.1 1 1) ≤ (w.1 1 2)) (h2 : ex 35 [.ref 1, .ref 100] w = some (some (.int r1), w1)) (h3 : r1 = 0) (h4 : ex 35 [.ref 1, .ref 101] w1 = some (some (.int r2), w2)) (h5 : ¬ r2 = 0) : runs (T_X3_readLetters ex) (0, [.ref 1], [], w) = some (none, updI w2 1 3 5) := 
    (runs_stps (q' := (8, [.ref 1], [.int (w.1 1 1), .int (w.1 1 2)], w)) 4 rfl).trans <|
    (runs_if_t (a := 41) (b := 11) (L := [.ref 1]) (st := []) (w := w) rfl h1).trans <|
    (runs_stps (q' := (44, [.ref 1], [.ref 100, .ref 1], w)) 2 rfl).trans <|
    (runs_callV (rv := some (.int r1)) (w' := w1) rfl rfl rfl rfl h2).trans <|
    (runs_if_t (a := 58) (b := 50) (L := [.ref 1]) (st := []) (w := w1) rfl h3).trans <|
    (runs_stps (q' := (61, [.ref 1], [.ref 101, .ref 1], w1)) 2 rfl).trans <|
    (runs_callV (rv := some (.int r2)) (w' := w2) rfl rfl rfl rfl h4).trans <|
    (runs_if_f (a := 75) (b := 67) (L := [.ref 1]) (st := []) (w := w2) rfl h5).trans <|
    (runs_stps (q' := (148, [.ref 1], [], updI w2 1 3 5)) 4 rfl).trans <|
    runs_ret rfl
theorem p_X3_readLetters_0TF_R {ex : Ex} {r1 : Int32} {w1 : Wd} {w : Wd} (h1 : (w.1 1 1) ≤ (w.1 1 2)) (h2 : ex 35 [.ref 1, .ref 100] w = some (some (.int r1), w1)) (h3 : ¬ r1 = 0) : runs (T_X3_readLetters ex) (0, [.ref 1], [], w) = some (none, updI w1 1 3 4) := 
    (runs_stps (q' := (8, [.ref 1], [.int (w.1 1 1), .int (w.1 1 2)], w)) 4 rfl).trans <|
    (runs_if_t (a := 41) (b := 11) (L := [.ref 1]) (st := []) (w := w) rfl h1).trans <|
    (runs_stps (q' := (44, [.ref 1], [.ref 100, .ref 1], w)) 2 rfl).trans <|
    (runs_callV (rv := some (.int r1)) (w' := w1) rfl rfl rfl rfl h2).trans <|
    (runs_if_f (a := 58) (b := 50) (L := [.ref 1]) (st := []) (w := w1) rfl h3).trans <|
    (runs_stps (q' := (148, [.ref 1], [], updI w1 1 3 4)) 4 rfl).trans <|
    runs_ret rfl
theorem p_X3_readLetters_0FTTTTTTT_R {ex : Ex} {r1 : Int32} {w1 : Wd} {r2 : Int32} {w2 : Wd} {r3 : Int32} {w3 : Wd} {r4 : Int32} {w4 : Wd} {r5 : Int32} {w5 : Wd} {r6 : Int32} {w6 : Wd} {r7 : Int32} {w7 : Wd} {r8 : Int32} {w8 : Wd} {w : Wd} (h1 : ¬ (w.1 1 1) ≤ (w.1 1 2)) (h2 : ex 133 [.ref 2, .int (w.1 1 2)] w = some (some (.int r1), w1)) (h3 : ex 37 [.int r1] w1 = some (some (.int r2), w2)) (h4 : r2 = 0) (h5 : ex 35 [.ref 1, .ref 100] w2 = some (some (.int r3), w3)) (h6 : r3 = 0) (h7 : ex 35 [.ref 1, .ref 101] w3 = some (some (.int r4), w4)) (h8 : r4 = 0) (h9 : ex 35 [.ref 1, .ref 102] w4 = some (some (.int r5), w5)) (h10 : r5 = 0) (h11 : ex 35 [.ref 1, .ref 103] w5 = some (some (.int r6), w6)) (h12 : r6 = 0) (h13 : ex 35 [.ref 1, .ref 104] w6 = some (some (.int r7), w7)) (h14 : r7 = 0) (h15 : ex 35 [.ref 1, .ref 105] w7 = some (some (.int r8), w8)) (h16 : r8 = 0) : runs (T_X3_readLetters ex) (0, [.ref 1], [], w) = some (none, updI w8 1 3 0) := 
    (runs_stps (q' := (8, [.ref 1], [.int (w.1 1 1), .int (w.1 1 2)], w)) 4 rfl).trans <|
    (runs_if_f (a := 41) (b := 11) (L := [.ref 1]) (st := []) (w := w) rfl h1).trans <|
    (runs_stps (q' := (19, [.ref 1], [.int (w.1 1 2), .ref 2], w)) 4 rfl).trans <|
    (runs_callS (rv := some (.int r1)) (w' := w1) rfl rfl rfl h2).trans <|
    (runs_callS (rv := some (.int r2)) (w' := w2) rfl rfl rfl h3).trans <|
    (runs_if_t (a := 41) (b := 28) (L := [.ref 1]) (st := []) (w := w2) rfl h4).trans <|
    (runs_stps (q' := (44, [.ref 1], [.ref 100, .ref 1], w2)) 2 rfl).trans <|
    (runs_callV (rv := some (.int r3)) (w' := w3) rfl rfl rfl rfl h5).trans <|
    (runs_if_t (a := 58) (b := 50) (L := [.ref 1]) (st := []) (w := w3) rfl h6).trans <|
    (runs_stps (q' := (61, [.ref 1], [.ref 101, .ref 1], w3)) 2 rfl).trans <|
    (runs_callV (rv := some (.int r4)) (w' := w4) rfl rfl rfl rfl h7).trans <|
    (runs_if_t (a := 75) (b := 67) (L := [.ref 1]) (st := []) (w := w4) rfl h8).trans <|
    (runs_stps (q' := (78, [.ref 1], [.ref 102, .ref 1], w4)) 2 rfl).trans <|
    (runs_callV (rv := some (.int r5)) (w' := w5) rfl rfl rfl rfl h9).trans <|
    (runs_if_t (a := 93) (b := 84) (L := [.ref 1]) (st := []) (w := w5) rfl h10).trans <|
    (runs_stps (q' := (96, [.ref 1], [.ref 103, .ref 1], w5)) 2 rfl).trans <|
    (runs_callV (rv := some (.int r6)) (w' := w6) rfl rfl rfl rfl h11).trans <|
    (runs_if_t (a := 111) (b := 102) (L := [.ref 1]) (st := []) (w := w6) rfl h12).trans <|
    (runs_stps (q' := (114, [.ref 1], [.ref 104, .ref 1], w6)) 2 rfl).trans <|
    (runs_callV (rv := some (.int r7)) (w' := w7) rfl rfl rfl rfl h13).trans <|
    (runs_if_t (a := 129) (b := 120) (L := [.ref 1]) (st := []) (w := w7) rfl h14).trans <|
    (runs_stps (q' := (133, [.ref 1], [.ref 105, .ref 1, .ref 1], w7)) 3 rfl).trans <|
    (runs_callV (rv := some (.int r8)) (w' := w8) rfl rfl rfl rfl h15).trans <|
    (runs_if_t (a := 144) (b := 139) (L := [.ref 1]) (st := [.ref 1]) (w := w8) rfl h16).trans <|
    (runs_stps (q' := (148, [.null], [], updI w8 1 3 0)) 2 rfl).trans <|
    runs_ret rfl
theorem p_X3_readLetters_0FTTTTTTF_R {ex : Ex} {r1 : Int32} {w1 : Wd} {r2 : Int32} {w2 : Wd} {r3 : Int32} {w3 : Wd} {r4 : Int32} {w4 : Wd} {r5 : Int32} {w5 : Wd} {r6 : Int32} {w6 : Wd} {r7 : Int32} {w7 : Wd} {r8 : Int32} {w8 : Wd} {w : Wd} (h1 : ¬ (w.1 1 1) ≤ (w.1 1 2)) (h2 : ex 133 [.ref 2, .int (w.1 1 2)] w = some (some (.int r1), w1)) (h3 : ex 37 [.int r1] w1 = some (some (.int r2), w2)) (h4 : r2 = 0) (h5 : ex 35 [.ref 1, .ref 100] w2 = some (some (.int r3), w3)) (h6 : r3 = 0) (h7 : ex 35 [.ref 1, .ref 101] w3 = some (some (.int r4), w4)) (h8 : r4 = 0) (h9 : ex 35 [.ref 1, .ref 102] w4 = some (some (.int r5), w5)) (h10 : r5 = 0) (h11 : ex 35 [.ref 1, .ref 103] w5 = some (some (.int r6), w6)) (h12 : r6 = 0) (h13 : ex 35 [.ref 1, .ref 104] w6 = some (some (.int r7), w7)) (h14 : r7 = 0) (h15 : ex 35 [.ref 1, .ref 105] w7 = some (some (.int r8), w8)) (h16 : ¬ r8 = 0) : runs (T_X3_readLetters ex) (0, [.ref 1], [], w) = some (none, updI w8 1 3 9) := 
    (runs_stps (q' := (8, [.ref 1], [.int (w.1 1 1), .int (w.1 1 2)], w)) 4 rfl).trans <|
    (runs_if_f (a := 41) (b := 11) (L := [.ref 1]) (st := []) (w := w) rfl h1).trans <|
    (runs_stps (q' := (19, [.ref 1], [.int (w.1 1 2), .ref 2], w)) 4 rfl).trans <|
    (runs_callS (rv := some (.int r1)) (w' := w1) rfl rfl rfl h2).trans <|
    (runs_callS (rv := some (.int r2)) (w' := w2) rfl rfl rfl h3).trans <|
    (runs_if_t (a := 41) (b := 28) (L := [.ref 1]) (st := []) (w := w2) rfl h4).trans <|
    (runs_stps (q' := (44, [.ref 1], [.ref 100, .ref 1], w2)) 2 rfl).trans <|
    (runs_callV (rv := some (.int r3)) (w' := w3) rfl rfl rfl rfl h5).trans <|
    (runs_if_t (a := 58) (b := 50) (L := [.ref 1]) (st := []) (w := w3) rfl h6).trans <|
    (runs_stps (q' := (61, [.ref 1], [.ref 101, .ref 1], w3)) 2 rfl).trans <|
    (runs_callV (rv := some (.int r4)) (w' := w4) rfl rfl rfl rfl h7).trans <|
    (runs_if_t (a := 75) (b := 67) (L := [.ref 1]) (st := []) (w := w4) rfl h8).trans <|
    (runs_stps (q' := (78, [.ref 1], [.ref 102, .ref 1], w4)) 2 rfl).trans <|
    (runs_callV (rv := some (.int r5)) (w' := w5) rfl rfl rfl rfl h9).trans <|
    (runs_if_t (a := 93) (b := 84) (L := [.ref 1]) (st := []) (w := w5) rfl h10).trans <|
    (runs_stps (q' := (96, [.ref 1], [.ref 103, .ref 1], w5)) 2 rfl).trans <|
    (runs_callV (rv := some (.int r6)) (w' := w6) rfl rfl rfl rfl h11).trans <|
    (runs_if_t (a := 111) (b := 102) (L := [.ref 1]) (st := []) (w := w6) rfl h12).trans <|
    (runs_stps (q' := (114, [.ref 1], [.ref 104, .ref 1], w6)) 2 rfl).trans <|
    (runs_callV (rv := some (.int r7)) (w' := w7) rfl rfl rfl rfl h13).trans <|
    (runs_if_t (a := 129) (b := 120) (L := [.ref 1]) (st := []) (w := w7) rfl h14).trans <|
    (runs_stps (q' := (133, [.ref 1], [.ref 105, .ref 1, .ref 1], w7)) 3 rfl).trans <|
    (runs_callV (rv := some (.int r8)) (w' := w8) rfl rfl rfl rfl h15).trans <|
    (runs_if_f (a := 144) (b := 139) (L := [.ref 1]) (st := [.ref 1]) (w := w8) rfl h16).trans <|
    (runs_stps (q' := (148, [.null], [], updI w8 1 3 9)) 3 rfl).trans <|
    runs_ret rfl
theorem p_X3_readLetters_0FTTTTTF_R {ex : Ex} {r1 : Int32} {w1 : Wd} {r2 : Int32} {w2 : Wd} {r3 : Int32} {w3 : Wd} {r4 : Int32} {w4 : Wd} {r5 : Int32} {w5 : Wd} {r6 : Int32} {w6 : Wd} {r7 : Int32} {w7 : Wd} {w : Wd} (h1 : ¬ (w.1 1 1) ≤ (w.1 1 2)) (h2 : ex 133 [.ref 2, .int (w.1 1 2)] w = some (some (.int r1), w1)) (h3 : ex 37 [.int r1] w1 = some (some (.int r2), w2)) (h4 : r2 = 0) (h5 : ex 35 [.ref 1, .ref 100] w2 = some (some (.int r3), w3)) (h6 : r3 = 0) (h7 : ex 35 [.ref 1, .ref 101] w3 = some (some (.int r4), w4)) (h8 : r4 = 0) (h9 : ex 35 [.ref 1, .ref 102] w4 = some (some (.int r5), w5)) (h10 : r5 = 0) (h11 : ex 35 [.ref 1, .ref 103] w5 = some (some (.int r6), w6)) (h12 : r6 = 0) (h13 : ex 35 [.ref 1, .ref 104] w6 = some (some (.int r7), w7)) (h14 : ¬ r7 = 0) : runs (T_X3_readLetters ex) (0, [.ref 1], [], w) = some (none, updI w7 1 3 8) := 
    (runs_stps (q' := (8, [.ref 1], [.int (w.1 1 1), .int (w.1 1 2)], w)) 4 rfl).trans <|
    (runs_if_f (a := 41) (b := 11) (L := [.ref 1]) (st := []) (w := w) rfl h1).trans <|
    (runs_stps (q' := (19, [.ref 1], [.int (w.1 1 2), .ref 2], w)) 4 rfl).trans <|
    (runs_callS (rv := some (.int r1)) (w' := w1) rfl rfl rfl h2).trans <|
    (runs_callS (rv := some (.int r2)) (w' := w2) rfl rfl rfl h3).trans <|
    (runs_if_t (a := 41) (b := 28) (L := [.ref 1]) (st := []) (w := w2) rfl h4).trans <|
    (runs_stps (q' := (44, [.ref 1], [.ref 100, .ref 1], w2)) 2 rfl).trans <|
    (runs_callV (rv := some (.int r3)) (w' := w3) rfl rfl rfl rfl h5).trans <|
    (runs_if_t (a := 58) (b := 50) (L := [.ref 1]) (st := []) (w := w3) rfl h6).trans <|
    (runs_stps (q' := (61, [.ref 1], [.ref 101, .ref 1], w3)) 2 rfl).trans <|
    (runs_callV (rv := some (.int r4)) (w' := w4) rfl rfl rfl rfl h7).trans <|
    (runs_if_t (a := 75) (b := 67) (L := [.ref 1]) (st := []) (w := w4) rfl h8).trans <|
    (runs_stps (q' := (78, [.ref 1], [.ref 102, .ref 1], w4)) 2 rfl).trans <|
    (runs_callV (rv := some (.int r5)) (w' := w5) rfl rfl rfl rfl h9).trans <|
    (runs_if_t (a := 93) (b := 84) (L := [.ref 1]) (st := []) (w := w5) rfl h10).trans <|
    (runs_stps (q' := (96, [.ref 1], [.ref 103, .ref 1], w5)) 2 rfl).trans <|
    (runs_callV (rv := some (.int r6)) (w' := w6) rfl rfl rfl rfl h11).trans <|
    (runs_if_t (a := 111) (b := 102) (L := [.ref 1]) (st := []) (w := w6) rfl h12).trans <|
    (runs_stps (q' := (114, [.ref 1], [.ref 104, .ref 1], w6)) 2 rfl).trans <|
    (runs_callV (rv := some (.int r7)) (w' := w7) rfl rfl rfl rfl h13).trans <|
    (runs_if_f (a := 129) (b := 120) (L := [.ref 1]) (st := []) (w := w7) rfl h14).trans <|
    (runs_stps (q' := (148, [.ref 1], [], updI w7 1 3 8)) 4 rfl).trans <|
    runs_ret rfl
theorem p_X3_readLetters_0FTTTTF_R {ex : Ex} {r1 : Int32} {w1 : Wd} {r2 : Int32} {w2 : Wd} {r3 : Int32} {w3 : Wd} {r4 : Int32} {w4 : Wd} {r5 : Int32} {w5 : Wd} {r6 : Int32} {w6 : Wd} {w : Wd} (h1 : ¬ (w.1 1 1) ≤ (w.1 1 2)) (h2 : ex 133 [.ref 2, .int (w.1 1 2)] w = some (some (.int r1), w1)) (h3 : ex 37 [.int r1] w1 = some (some (.int r2), w2)) (h4 : r2 = 0) (h5 : ex 35 [.ref 1, .ref 100] w2 = some (some (.int r3), w3)) (h6 : r3 = 0) (h7 : ex 35 [.ref 1, .ref 101] w3 = some (some (.int r4), w4)) (h8 : r4 = 0) (h9 : ex 35 [.ref 1, .ref 102] w4 = some (some (.int r5), w5)) (h10 : r5 = 0) (h11 : ex 35 [.ref 1, .ref 103] w5 = some (some (.int r6), w6)) (h12 : ¬ r6 = 0) : runs (T_X3_readLetters ex) (0, [.ref 1], [], w) = some (none, updI w6 1 3 7) := 
    (runs_stps (q' := (8, [.ref 1], [.int (w.1 1 1), .int (w.1 1 2)], w)) 4 rfl).trans <|
    (runs_if_f (a := 41) (b := 11) (L := [.ref 1]) (st := []) (w := w) rfl h1).trans <|
    (runs_stps (q' := (19, [.ref 1], [.int (w.1 1 2), .ref 2], w)) 4 rfl).trans <|
    (runs_callS (rv := some (.int r1)) (w' := w1) rfl rfl rfl h2).trans <|
    (runs_callS (rv := some (.int r2)) (w' := w2) rfl rfl rfl h3).trans <|
    (runs_if_t (a := 41) (b := 28) (L := [.ref 1]) (st := []) (w := w2) rfl h4).trans <|
    (runs_stps (q' := (44, [.ref 1], [.ref 100, .ref 1], w2)) 2 rfl).trans <|
    (runs_callV (rv := some (.int r3)) (w' := w3) rfl rfl rfl rfl h5).trans <|
    (runs_if_t (a := 58) (b := 50) (L := [.ref 1]) (st := []) (w := w3) rfl h6).trans <|
    (runs_stps (q' := (61, [.ref 1], [.ref 101, .ref 1], w3)) 2 rfl).trans <|
    (runs_callV (rv := some (.int r4)) (w' := w4) rfl rfl rfl rfl h7).trans <|
    (runs_if_t (a := 75) (b := 67) (L := [.ref 1]) (st := []) (w := w4) rfl h8).trans <|
    (runs_stps (q' := (78, [.ref 1], [.ref 102, .ref 1], w4)) 2 rfl).trans <|
    (runs_callV (rv := some (.int r5)) (w' := w5) rfl rfl rfl rfl h9).trans <|
    (runs_if_t (a := 93) (b := 84) (L := [.ref 1]) (st := []) (w := w5) rfl h10).trans <|
    (runs_stps (q' := (96, [.ref 1], [.ref 103, .ref 1], w5)) 2 rfl).trans <|
    (runs_callV (rv := some (.int r6)) (w' := w6) rfl rfl rfl rfl h11).trans <|
    (runs_if_f (a := 111) (b := 102) (L := [.ref 1]) (st := []) (w := w6) rfl h12).trans <|
    (runs_stps (q' := (148, [.ref 1], [], updI w6 1 3 7)) 4 rfl).trans <|
    runs_ret rfl
theorem p_X3_readLetters_0FTTTF_R {ex : Ex} {r1 : Int32} {w1 : Wd} {r2 : Int32} {w2 : Wd} {r3 : Int32} {w3 : Wd} {r4 : Int32} {w4 : Wd} {r5 : Int32} {w5 : Wd} {w : Wd} (h1 : ¬ (w.1 1 1) ≤ (w.1 1 2)) (h2 : ex 133 [.ref 2, .int (w.1 1 2)] w = some (some (.int r1), w1)) (h3 : ex 37 [.int r1] w1 = some (some (.int r2), w2)) (h4 : r2 = 0) (h5 : ex 35 [.ref 1, .ref 100] w2 = some (some (.int r3), w3)) (h6 : r3 = 0) (h7 : ex 35 [.ref 1, .ref 101] w3 = some (some (.int r4), w4)) (h8 : r4 = 0) (h9 : ex 35 [.ref 1, .ref 102] w4 = some (some (.int r5), w5)) (h10 : ¬ r5 = 0) : runs (T_X3_readLetters ex) (0, [.ref 1], [], w) = some (none, updI w5 1 3 6) := 
    (runs_stps (q' := (8, [.ref 1], [.int (w.1 1 1), .int (w.1 1 2)], w)) 4 rfl).trans <|
    (runs_if_f (a := 41) (b := 11) (L := [.ref 1]) (st := []) (w := w) rfl h1).trans <|
    (runs_stps (q' := (19, [.ref 1], [.int (w.1 1 2), .ref 2], w)) 4 rfl).trans <|
    (runs_callS (rv := some (.int r1)) (w' := w1) rfl rfl rfl h2).trans <|
    (runs_callS (rv := some (.int r2)) (w' := w2) rfl rfl rfl h3).trans <|
    (runs_if_t (a := 41) (b := 28) (L := [.ref 1]) (st := []) (w := w2) rfl h4).trans <|
    (runs_stps (q' := (44, [.ref 1], [.ref 100, .ref 1], w2)) 2 rfl).trans <|
    (runs_callV (rv := some (.int r3)) (w' := w3) rfl rfl rfl rfl h5).trans <|
    (runs_if_t (a := 58) (b := 50) (L := [.ref 1]) (st := []) (w := w3) rfl h6).trans <|
    (runs_stps (q' := (61, [.ref 1], [.ref 101, .ref 1], w3)) 2 rfl).trans <|
    (runs_callV (rv := some (.int r4)) (w' := w4) rfl rfl rfl rfl h7).trans <|
    (runs_if_t (a := 75) (b := 67) (L := [.ref 1]) (st := []) (w := w4) rfl h8).trans <|
    (runs_stps (q' := (78, [.ref 1], [.ref 102, .ref 1], w4)) 2 rfl).trans <|
    (runs_callV (rv := some (.int r5)) (w' := w5) rfl rfl rfl rfl h9).trans <|
    (runs_if_f (a := 93) (b := 84) (L := [.ref 1]) (st := []) (w := w5) rfl h10).trans <|
    (runs_stps (q' := (148, [.ref 1], [], updI w5 1 3 6)) 4 rfl).trans <|
    runs_ret rfl
theorem p_X3_readLetters_0FTTF_R {ex : Ex} {r1 : Int32} {w1 : Wd} {r2 : Int32} {w2 : Wd} {r3 : Int32} {w3 : Wd} {r4 : Int32} {w4 : Wd} {w : Wd} (h1 : ¬ (w.1 1 1) ≤ (w.1 1 2)) (h2 : ex 133 [.ref 2, .int (w.1 1 2)] w = some (some (.int r1), w1)) (h3 : ex 37 [.int r1] w1 = some (some (.int r2), w2)) (h4 : r2 = 0) (h5 : ex 35 [.ref 1, .ref 100] w2 = some (some (.int r3), w3)) (h6 : r3 = 0) (h7 : ex 35 [.ref 1, .ref 101] w3 = some (some (.int r4), w4)) (h8 : ¬ r4 = 0) : runs (T_X3_readLetters ex) (0, [.ref 1], [], w) = some (none, updI w4 1 3 5) := 
    (runs_stps (q' := (8, [.ref 1], [.int (w.1 1 1), .int (w.1 1 2)], w)) 4 rfl).trans <|
    (runs_if_f (a := 41) (b := 11) (L := [.ref 1]) (st := []) (w := w) rfl h1).trans <|
    (runs_stps (q' := (19, [.ref 1], [.int (w.1 1 2), .ref 2], w)) 4 rfl).trans <|
    (runs_callS (rv := some (.int r1)) (w' := w1) rfl rfl rfl h2).trans <|
    (runs_callS (rv := some (.int r2)) (w' := w2) rfl rfl rfl h3).trans <|
    (runs_if_t (a := 41) (b := 28) (L := [.ref 1]) (st := []) (w := w2) rfl h4).trans <|
    (runs_stps (q' := (44, [.ref 1], [.ref 100, .ref 1], w2)) 2 rfl).trans <|
    (runs_callV (rv := some (.int r3)) (w' := w3) rfl rfl rfl rfl h5).trans <|
    (runs_if_t (a := 58) (b := 50) (L := [.ref 1]) (st := []) (w := w3) rfl h6).trans <|
    (runs_stps (q' := (61, [.ref 1], [.ref 101, .ref 1], w3)) 2 rfl).trans <|
    (runs_callV (rv := some (.int r4)) (w' := w4) rfl rfl rfl rfl h7).trans <|
    (runs_if_f (a := 75) (b := 67) (L := [.ref 1]) (st := []) (w := w4) rfl h8).trans <|
    (runs_stps (q' := (148, [.ref 1], [], updI w4 1 3 5)) 4 rfl).trans <|
    runs_ret rfl
theorem p_X3_readLetters_0FTF_R {ex : Ex} {r1 : Int32} {w1 : Wd} {r2 : Int32} {w2 : Wd} {r3 : Int32} {w3 : Wd} {w : Wd} (h1 : ¬ (w.1 1 1) ≤ (w.1 1 2)) (h2 : ex 133 [.ref 2, .int (w.1 1 2)] w = some (some (.int r1), w1)) (h3 : ex 37 [.int r1] w1 = some (some (.int r2), w2)) (h4 : r2 = 0) (h5 : ex 35 [.ref 1, .ref 100] w2 = some (some (.int r3), w3)) (h6 : ¬ r3 = 0) : runs (T_X3_readLetters ex) (0, [.ref 1], [], w) = some (none, updI w3 1 3 4) := 
    (runs_stps (q' := (8, [.ref 1], [.int (w.1 1 1), .int (w.1 1 2)], w)) 4 rfl).trans <|
    (runs_if_f (a := 41) (b := 11) (L := [.ref 1]) (st := []) (w := w) rfl h1).trans <|
    (runs_stps (q' := (19, [.ref 1], [.int (w.1 1 2), .ref 2], w)) 4 rfl).trans <|
    (runs_callS (rv := some (.int r1)) (w' := w1) rfl rfl rfl h2).trans <|
    (runs_callS (rv := some (.int r2)) (w' := w2) rfl rfl rfl h3).trans <|
    (runs_if_t (a := 41) (b := 28) (L := [.ref 1]) (st := []) (w := w2) rfl h4).trans <|
    (runs_stps (q' := (44, [.ref 1], [.ref 100, .ref 1], w2)) 2 rfl).trans <|
    (runs_callV (rv := some (.int r3)) (w' := w3) rfl rfl rfl rfl h5).trans <|
    (runs_if_f (a := 58) (b := 50) (L := [.ref 1]) (st := []) (w := w3) rfl h6).trans <|
    (runs_stps (q' := (148, [.ref 1], [], updI w3 1 3 4)) 4 rfl).trans <|
    runs_ret rfl
theorem p_X3_readLetters_0FF_L0 {ex : Ex} {r1 : Int32} {w1 : Wd} {r2 : Int32} {w2 : Wd} {w : Wd} (h1 : ¬ (w.1 1 1) ≤ (w.1 1 2)) (h2 : ex 133 [.ref 2, .int (w.1 1 2)] w = some (some (.int r1), w1)) (h3 : ex 37 [.int r1] w1 = some (some (.int r2), w2)) (h4 : ¬ r2 = 0) : runs (T_X3_readLetters ex) (0, [.ref 1], [], w) = runs (T_X3_readLetters ex) (0, [.ref 1], [], updI w2 1 2 ((w2.1 1 2) + 1)) := 
    (runs_stps (q' := (8, [.ref 1], [.int (w.1 1 1), .int (w.1 1 2)], w)) 4 rfl).trans <|
    (runs_if_f (a := 41) (b := 11) (L := [.ref 1]) (st := []) (w := w) rfl h1).trans <|
    (runs_stps (q' := (19, [.ref 1], [.int (w.1 1 2), .ref 2], w)) 4 rfl).trans <|
    (runs_callS (rv := some (.int r1)) (w' := w1) rfl rfl rfl h2).trans <|
    (runs_callS (rv := some (.int r2)) (w' := w2) rfl rfl rfl h3).trans <|
    (runs_if_f (a := 41) (b := 28) (L := [.ref 1]) (st := []) (w := w2) rfl h4).trans <|
    (runs_stps (q' := (0, [.ref 1], [], updI w2 1 2 ((w2.1 1 2) + 1))) 7 rfl).trans <|
    rfl
theorem p_X3_isWord_0T_L20 {ex : Ex} {a : Nat} {r1 : Int32} {w1 : Wd} {w : Wd} (ha : sca a) (h1 : ex 199 [.ref a] w = some (some (.int r1), w1)) (h2 : ((w.1 1 2) - (w.1 1 4)) = r1) : runs (T_X3_isWord ex) (0, [.ref 1, .ref a, .null], [], w) = runs (T_X3_isWord ex) (20, [.ref 1, .ref a, .int 0], [], w1) := by
  rcases ha with rfl | rfl | rfl | rfl | rfl | rfl
  · exact (runs_stps (q' := (10, [.ref 1, .ref 100, .null], [.ref 100, .int ((w.1 1 2) - (w.1 1 4))], w)) 6 rfl).trans <|
    (runs_callT (rv := some (.int r1)) (w' := w1) rfl rfl rfl h1).trans <|
    (runs_if_t (a := 18) (b := 16) (L := [.ref 1, .ref 100, .null]) (st := []) (w := w1) rfl h2).trans <|
    (runs_stps (q' := (20, [.ref 1, .ref 100, .int 0], [], w1)) 2 rfl).trans <|
    rfl
  · exact (runs_stps (q' := (10, [.ref 1, .ref 101, .null], [.ref 101, .int ((w.1 1 2) - (w.1 1 4))], w)) 6 rfl).trans <|
    (runs_callT (rv := some (.int r1)) (w' := w1) rfl rfl rfl h1).trans <|
    (runs_if_t (a := 18) (b := 16) (L := [.ref 1, .ref 101, .null]) (st := []) (w := w1) rfl h2).trans <|
    (runs_stps (q' := (20, [.ref 1, .ref 101, .int 0], [], w1)) 2 rfl).trans <|
    rfl
  · exact (runs_stps (q' := (10, [.ref 1, .ref 102, .null], [.ref 102, .int ((w.1 1 2) - (w.1 1 4))], w)) 6 rfl).trans <|
    (runs_callT (rv := some (.int r1)) (w' := w1) rfl rfl rfl h1).trans <|
    (runs_if_t (a := 18) (b := 16) (L := [.ref 1, .ref 102, .null]) (st := []) (w := w1) rfl h2).trans <|
    (runs_stps (q' := (20, [.ref 1, .ref 102, .int 0], [], w1)) 2 rfl).trans <|
    rfl
  · exact (runs_stps (q' := (10, [.ref 1, .ref 103, .null], [.ref 103, .int ((w.1 1 2) - (w.1 1 4))], w)) 6 rfl).trans <|
    (runs_callT (rv := some (.int r1)) (w' := w1) rfl rfl rfl h1).trans <|
    (runs_if_t (a := 18) (b := 16) (L := [.ref 1, .ref 103, .null]) (st := []) (w := w1) rfl h2).trans <|
    (runs_stps (q' := (20, [.ref 1, .ref 103, .int 0], [], w1)) 2 rfl).trans <|
    rfl
  · exact (runs_stps (q' := (10, [.ref 1, .ref 104, .null], [.ref 104, .int ((w.1 1 2) - (w.1 1 4))], w)) 6 rfl).trans <|
    (runs_callT (rv := some (.int r1)) (w' := w1) rfl rfl rfl h1).trans <|
    (runs_if_t (a := 18) (b := 16) (L := [.ref 1, .ref 104, .null]) (st := []) (w := w1) rfl h2).trans <|
    (runs_stps (q' := (20, [.ref 1, .ref 104, .int 0], [], w1)) 2 rfl).trans <|
    rfl
  · exact (runs_stps (q' := (10, [.ref 1, .ref 105, .null], [.ref 105, .int ((w.1 1 2) - (w.1 1 4))], w)) 6 rfl).trans <|
    (runs_callT (rv := some (.int r1)) (w' := w1) rfl rfl rfl h1).trans <|
    (runs_if_t (a := 18) (b := 16) (L := [.ref 1, .ref 105, .null]) (st := []) (w := w1) rfl h2).trans <|
    (runs_stps (q' := (20, [.ref 1, .ref 105, .int 0], [], w1)) 2 rfl).trans <|
    rfl
theorem p_X3_isWord_0F_R {ex : Ex} {a : Nat} {r1 : Int32} {w1 : Wd} {w : Wd} (ha : sca a) (h1 : ex 199 [.ref a] w = some (some (.int r1), w1)) (h2 : ¬ ((w.1 1 2) - (w.1 1 4)) = r1) : runs (T_X3_isWord ex) (0, [.ref 1, .ref a, .null], [], w) = some (some (.int 0), w1) := by
  rcases ha with rfl | rfl | rfl | rfl | rfl | rfl
  · exact (runs_stps (q' := (10, [.ref 1, .ref 100, .null], [.ref 100, .int ((w.1 1 2) - (w.1 1 4))], w)) 6 rfl).trans <|
    (runs_callT (rv := some (.int r1)) (w' := w1) rfl rfl rfl h1).trans <|
    (runs_if_f (a := 18) (b := 16) (L := [.ref 1, .ref 100, .null]) (st := []) (w := w1) rfl h2).trans <|
    (runs_stps (q' := (17, [.ref 1, .ref 100, .null], [.int 0], w1)) 1 rfl).trans <|
    runs_ret rfl
  · exact (runs_stps (q' := (10, [.ref 1, .ref 101, .null], [.ref 101, .int ((w.1 1 2) - (w.1 1 4))], w)) 6 rfl).trans <|
    (runs_callT (rv := some (.int r1)) (w' := w1) rfl rfl rfl h1).trans <|
    (runs_if_f (a := 18) (b := 16) (L := [.ref 1, .ref 101, .null]) (st := []) (w := w1) rfl h2).trans <|
    (runs_stps (q' := (17, [.ref 1, .ref 101, .null], [.int 0], w1)) 1 rfl).trans <|
    runs_ret rfl
  · exact (runs_stps (q' := (10, [.ref 1, .ref 102, .null], [.ref 102, .int ((w.1 1 2) - (w.1 1 4))], w)) 6 rfl).trans <|
    (runs_callT (rv := some (.int r1)) (w' := w1) rfl rfl rfl h1).trans <|
    (runs_if_f (a := 18) (b := 16) (L := [.ref 1, .ref 102, .null]) (st := []) (w := w1) rfl h2).trans <|
    (runs_stps (q' := (17, [.ref 1, .ref 102, .null], [.int 0], w1)) 1 rfl).trans <|
    runs_ret rfl
  · exact (runs_stps (q' := (10, [.ref 1, .ref 103, .null], [.ref 103, .int ((w.1 1 2) - (w.1 1 4))], w)) 6 rfl).trans <|
    (runs_callT (rv := some (.int r1)) (w' := w1) rfl rfl rfl h1).trans <|
    (runs_if_f (a := 18) (b := 16) (L := [.ref 1, .ref 103, .null]) (st := []) (w := w1) rfl h2).trans <|
    (runs_stps (q' := (17, [.ref 1, .ref 103, .null], [.int 0], w1)) 1 rfl).trans <|
    runs_ret rfl
  · exact (runs_stps (q' := (10, [.ref 1, .ref 104, .null], [.ref 104, .int ((w.1 1 2) - (w.1 1 4))], w)) 6 rfl).trans <|
    (runs_callT (rv := some (.int r1)) (w' := w1) rfl rfl rfl h1).trans <|
    (runs_if_f (a := 18) (b := 16) (L := [.ref 1, .ref 104, .null]) (st := []) (w := w1) rfl h2).trans <|
    (runs_stps (q' := (17, [.ref 1, .ref 104, .null], [.int 0], w1)) 1 rfl).trans <|
    runs_ret rfl
  · exact (runs_stps (q' := (10, [.ref 1, .ref 105, .null], [.ref 105, .int ((w.1 1 2) - (w.1 1 4))], w)) 6 rfl).trans <|
    (runs_callT (rv := some (.int r1)) (w' := w1) rfl rfl rfl h1).trans <|
    (runs_if_f (a := 18) (b := 16) (L := [.ref 1, .ref 105, .null]) (st := []) (w := w1) rfl h2).trans <|
    (runs_stps (q' := (17, [.ref 1, .ref 105, .null], [.int 0], w1)) 1 rfl).trans <|
    runs_ret rfl
theorem p_X3_isWord_20T_R {ex : Ex} {a : Nat} {x2 : Int32} {r1 : Int32} {w1 : Wd} {w : Wd} (ha : sca a) (h1 : ex 199 [.ref a] w = some (some (.int r1), w1)) (h2 : r1 ≤ x2) : runs (T_X3_isWord ex) (20, [.ref 1, .ref a, .int x2], [], w) = some (some (.int 1), w1) := by
  rcases ha with rfl | rfl | rfl | rfl | rfl | rfl
  · exact (runs_stps (q' := (22, [.ref 1, .ref 100, .int x2], [.ref 100, .int x2], w)) 2 rfl).trans <|
    (runs_callT (rv := some (.int r1)) (w' := w1) rfl rfl rfl h1).trans <|
    (runs_if_t (a := 57) (b := 28) (L := [.ref 1, .ref 100, .int x2]) (st := []) (w := w1) rfl h2).trans <|
    (runs_stps (q' := (58, [.null, .null, .null], [.int 1], w1)) 1 rfl).trans <|
    runs_ret rfl
  · exact (runs_stps (q' := (22, [.ref 1, .ref 101, .int x2], [.ref 101, .int x2], w)) 2 rfl).trans <|
    (runs_callT (rv := some (.int r1)) (w' := w1) rfl rfl rfl h1).trans <|
    (runs_if_t (a := 57) (b := 28) (L := [.ref 1, .ref 101, .int x2]) (st := []) (w := w1) rfl h2).trans <|
    (runs_stps (q' := (58, [.null, .null, .null], [.int 1], w1)) 1 rfl).trans <|
    runs_ret rfl
  · exact (runs_stps (q' := (22, [.ref 1, .ref 102, .int x2], [.ref 102, .int x2], w)) 2 rfl).trans <|
    (runs_callT (rv := some (.int r1)) (w' := w1) rfl rfl rfl h1).trans <|
    (runs_if_t (a := 57) (b := 28) (L := [.ref 1, .ref 102, .int x2]) (st := []) (w := w1) rfl h2).trans <|
    (runs_stps (q' := (58, [.null, .null, .null], [.int 1], w1)) 1 rfl).trans <|
    runs_ret rfl
  · exact (runs_stps (q' := (22, [.ref 1, .ref 103, .int x2], [.ref 103, .int x2], w)) 2 rfl).trans <|
    (runs_callT (rv := some (.int r1)) (w' := w1) rfl rfl rfl h1).trans <|
    (runs_if_t (a := 57) (b := 28) (L := [.ref 1, .ref 103, .int x2]) (st := []) (w := w1) rfl h2).trans <|
    (runs_stps (q' := (58, [.null, .null, .null], [.int 1], w1)) 1 rfl).trans <|
    runs_ret rfl
  · exact (runs_stps (q' := (22, [.ref 1, .ref 104, .int x2], [.ref 104, .int x2], w)) 2 rfl).trans <|
    (runs_callT (rv := some (.int r1)) (w' := w1) rfl rfl rfl h1).trans <|
    (runs_if_t (a := 57) (b := 28) (L := [.ref 1, .ref 104, .int x2]) (st := []) (w := w1) rfl h2).trans <|
    (runs_stps (q' := (58, [.null, .null, .null], [.int 1], w1)) 1 rfl).trans <|
    runs_ret rfl
  · exact (runs_stps (q' := (22, [.ref 1, .ref 105, .int x2], [.ref 105, .int x2], w)) 2 rfl).trans <|
    (runs_callT (rv := some (.int r1)) (w' := w1) rfl rfl rfl h1).trans <|
    (runs_if_t (a := 57) (b := 28) (L := [.ref 1, .ref 105, .int x2]) (st := []) (w := w1) rfl h2).trans <|
    (runs_stps (q' := (58, [.null, .null, .null], [.int 1], w1)) 1 rfl).trans <|
    runs_ret rfl
theorem p_X3_isWord_20FT_L20 {ex : Ex} {a : Nat} {x2 : Int32} {r1 : Int32} {w1 : Wd} {r2 : Int32} {w2 : Wd} {r3 : Int32} {w3 : Wd} {w : Wd} (ha : sca a) (h1 : ex 199 [.ref a] w = some (some (.int r1), w1)) (h2 : ¬ r1 ≤ x2) (h3 : ex 133 [.ref 2, .int ((w1.1 1 4) + x2)] w1 = some (some (.int r2), w2)) (h4 : ex 200 [.ref a, .int x2] w2 = some (some (.int r3), w3)) (h5 : r2 = r3) : runs (T_X3_isWord ex) (20, [.ref 1, .ref a, .int x2], [], w) = runs (T_X3_isWord ex) (20, [.ref 1, .ref a, .int (x2 + 1)], [], w3) := by
  rcases ha with rfl | rfl | rfl | rfl | rfl | rfl
  · exact (runs_stps (q' := (22, [.ref 1, .ref 100, .int x2], [.ref 100, .int x2], w)) 2 rfl).trans <|
    (runs_callT (rv := some (.int r1)) (w' := w1) rfl rfl rfl h1).trans <|
    (runs_if_f (a := 57) (b := 28) (L := [.ref 1, .ref 100, .int x2]) (st := []) (w := w1) rfl h2).trans <|
    (runs_stps (q' := (38, [.ref 1, .ref 100, .int x2], [.int ((w1.1 1 4) + x2), .ref 2], w1)) 6 rfl).trans <|
    (runs_callS (rv := some (.int r2)) (w' := w2) rfl rfl rfl h3).trans <|
    (runs_stps (q' := (43, [.ref 1, .ref 100, .int x2], [.int x2, .ref 100, .int r2], w2)) 2 rfl).trans <|
    (runs_callT (rv := some (.int r3)) (w' := w3) rfl rfl rfl h4).trans <|
    (runs_if_t (a := 51) (b := 49) (L := [.ref 1, .ref 100, .int x2]) (st := []) (w := w3) rfl h5).trans <|
    (runs_stps (q' := (20, [.ref 1, .ref 100, .int (x2 + 1)], [], w3)) 2 rfl).trans <|
    rfl
  · exact (runs_stps (q' := (22, [.ref 1, .ref 101, .int x2], [.ref 101, .int x2], w)) 2 rfl).trans <|
    (runs_callT (rv := some (.int r1)) (w' := w1) rfl rfl rfl h1).trans <|
    (runs_if_f (a := 57) (b := 28) (L := [.ref 1, .ref 101, .int x2]) (st := []) (w := w1) rfl h2).trans <|
    (runs_stps (q' := (38, [.ref 1, .ref 101, .int x2], [.int ((w1.1 1 4) + x2), .ref 2], w1)) 6 rfl).trans <|
    (runs_callS (rv := some (.int r2)) (w' := w2) rfl rfl rfl h3).trans <|
    (runs_stps (q' := (43, [.ref 1, .ref 101, .int x2], [.int x2, .ref 101, .int r2], w2)) 2 rfl).trans <|
    (runs_callT (rv := some (.int r3)) (w' := w3) rfl rfl rfl h4).trans <|
    (runs_if_t (a := 51) (b := 49) (L := [.ref 1, .ref 101, .int x2]) (st := []) (w := w3) rfl h5).trans <|
    (runs_stps (q' := (20, [.ref 1, .ref 101, .int (x2 + 1)], [], w3)) 2 rfl).trans <|
    rfl
  · exact (runs_stps (q' := (22, [.ref 1, .ref 102, .int x2], [.ref 102, .int x2], w)) 2 rfl).trans <|
    (runs_callT (rv := some (.int r1)) (w' := w1) rfl rfl rfl h1).trans <|
    (runs_if_f (a := 57) (b := 28) (L := [.ref 1, .ref 102, .int x2]) (st := []) (w := w1) rfl h2).trans <|
    (runs_stps (q' := (38, [.ref 1, .ref 102, .int x2], [.int ((w1.1 1 4) + x2), .ref 2], w1)) 6 rfl).trans <|
    (runs_callS (rv := some (.int r2)) (w' := w2) rfl rfl rfl h3).trans <|
    (runs_stps (q' := (43, [.ref 1, .ref 102, .int x2], [.int x2, .ref 102, .int r2], w2)) 2 rfl).trans <|
    (runs_callT (rv := some (.int r3)) (w' := w3) rfl rfl rfl h4).trans <|
    (runs_if_t (a := 51) (b := 49) (L := [.ref 1, .ref 102, .int x2]) (st := []) (w := w3) rfl h5).trans <|
    (runs_stps (q' := (20, [.ref 1, .ref 102, .int (x2 + 1)], [], w3)) 2 rfl).trans <|
    rfl
  · exact (runs_stps (q' := (22, [.ref 1, .ref 103, .int x2], [.ref 103, .int x2], w)) 2 rfl).trans <|
    (runs_callT (rv := some (.int r1)) (w' := w1) rfl rfl rfl h1).trans <|
    (runs_if_f (a := 57) (b := 28) (L := [.ref 1, .ref 103, .int x2]) (st := []) (w := w1) rfl h2).trans <|
    (runs_stps (q' := (38, [.ref 1, .ref 103, .int x2], [.int ((w1.1 1 4) + x2), .ref 2], w1)) 6 rfl).trans <|
    (runs_callS (rv := some (.int r2)) (w' := w2) rfl rfl rfl h3).trans <|
    (runs_stps (q' := (43, [.ref 1, .ref 103, .int x2], [.int x2, .ref 103, .int r2], w2)) 2 rfl).trans <|
    (runs_callT (rv := some (.int r3)) (w' := w3) rfl rfl rfl h4).trans <|
    (runs_if_t (a := 51) (b := 49) (L := [.ref 1, .ref 103, .int x2]) (st := []) (w := w3) rfl h5).trans <|
    (runs_stps (q' := (20, [.ref 1, .ref 103, .int (x2 + 1)], [], w3)) 2 rfl).trans <|
    rfl
  · exact (runs_stps (q' := (22, [.ref 1, .ref 104, .int x2], [.ref 104, .int x2], w)) 2 rfl).trans <|
    (runs_callT (rv := some (.int r1)) (w' := w1) rfl rfl rfl h1).trans <|
    (runs_if_f (a := 57) (b := 28) (L := [.ref 1, .ref 104, .int x2]) (st := []) (w := w1) rfl h2).trans <|
    (runs_stps (q' := (38, [.ref 1, .ref 104, .int x2], [.int ((w1.1 1 4) + x2), .ref 2], w1)) 6 rfl).trans <|
    (runs_callS (rv := some (.int r2)) (w' := w2) rfl rfl rfl h3).trans <|
    (runs_stps (q' := (43, [.ref 1, .ref 104, .int x2], [.int x2, .ref 104, .int r2], w2)) 2 rfl).trans <|
    (runs_callT (rv := some (.int r3)) (w' := w3) rfl rfl rfl h4).trans <|
    (runs_if_t (a := 51) (b := 49) (L := [.ref 1, .ref 104, .int x2]) (st := []) (w := w3) rfl h5).trans <|
    (runs_stps (q' := (20, [.ref 1, .ref 104, .int (x2 + 1)], [], w3)) 2 rfl).trans <|
    rfl
  · exact (runs_stps (q' := (22, [.ref 1, .ref 105, .int x2], [.ref 105, .int x2], w)) 2 rfl).trans <|
    (runs_callT (rv := some (.int r1)) (w' := w1) rfl rfl rfl h1).trans <|
    (runs_if_f (a := 57) (b := 28) (L := [.ref 1, .ref 105, .int x2]) (st := []) (w := w1) rfl h2).trans <|
    (runs_stps (q' := (38, [.ref 1, .ref 105, .int x2], [.int ((w1.1 1 4) + x2), .ref 2], w1)) 6 rfl).trans <|
    (runs_callS (rv := some (.int r2)) (w' := w2) rfl rfl rfl h3).trans <|
    (runs_stps (q' := (43, [.ref 1, .ref 105, .int x2], [.int x2, .ref 105, .int r2], w2)) 2 rfl).trans <|
    (runs_callT (rv := some (.int r3)) (w' := w3) rfl rfl rfl h4).trans <|
    (runs_if_t (a := 51) (b := 49) (L := [.ref 1, .ref 105, .int x2]) (st := []) (w := w3) rfl h5).trans <|
    (runs_stps (q' := (20, [.ref 1, .ref 105, .int (x2 + 1)], [], w3)) 2 rfl).trans <|
    rfl

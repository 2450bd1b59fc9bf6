/-! paths of the methods (printed by a program) -/
theorem p_X9_saw_0T_R {ex : Ex} {x1 : Int32} {x2 : Int32} {r1 : Int32} {w1 : Wd} {w : Wd} (h1 : ex 135 [.int x1, .int 0, .int 3] (updI w 34 0 0) = some (some (.int r1), w1)) (h2 : r1 = 0) : runs (T_X9_saw ex) (0, [.ref 34, .int x1, .int x2], [], w) = some (some (.int (-1)), w1) := 
    (runs_stps (q' := (8, [.ref 34, .int x1, .int x2], [.int 3, .int 0, .int x1], updI w 34 0 0)) 6 rfl).trans <|
    (runs_callS (rv := some (.int r1)) (w' := w1) rfl rfl rfl h1).trans <|
    (runs_if_t (a := 25) (b := 14) (L := [.ref 34, .int x1, .int x2]) (st := []) (w := w1) rfl h2).trans <|
    (runs_stps (q' := (26, [.null, .null, .null], [.int (-1)], w1)) 1 rfl).trans <|
    runs_ret rfl
theorem p_X9_saw_0FTT_R {ex : Ex} {x1 : Int32} {x2 : Int32} {r1 : Int32} {w1 : Wd} {r2 : Int32} {w2 : Wd} {w : Wd} (h1 : ex 135 [.int x1, .int 0, .int 3] (updI w 34 0 0) = some (some (.int r1), w1)) (h2 : ¬ r1 = 0) (h3 : ex 135 [.int x2, .int 0, .int 1023] w1 = some (some (.int r2), w2)) (h4 : ¬ r2 = 0) (h5 : ¬ (w2.1 34 26) = 6) (h6 : vp_in (w2.1 34 26) 6) (h7 : vp_in (w2.1 34 26) 6) : runs (T_X9_saw ex) (0, [.ref 34, .int x1, .int x2], [], w) = some (some (.int ((w2.1 34 26) + 1)), updI (updI (updI w2 44 ((w2.1 34 26).toNatClampNeg) x1) 45 ((w2.1 34 26).toNatClampNeg) x2) 34 26 ((w2.1 34 26) + 1)) := 
    (runs_stps (q' := (8, [.ref 34, .int x1, .int x2], [.int 3, .int 0, .int x1], updI w 34 0 0)) 6 rfl).trans <|
    (runs_callS (rv := some (.int r1)) (w' := w1) rfl rfl rfl h1).trans <|
    (runs_if_f (a := 25) (b := 14) (L := [.ref 34, .int x1, .int x2]) (st := []) (w := w1) rfl h2).trans <|
    (runs_stps (q' := (19, [.ref 34, .int x1, .int x2], [.int 1023, .int 0, .int x2], w1)) 3 rfl).trans <|
    (runs_callS (rv := some (.int r2)) (w' := w2) rfl rfl rfl h3).trans <|
    (runs_if_f (a := 25) (b := 27) (L := [.ref 34, .int x1, .int x2]) (st := []) (w := w2) rfl h4).trans <|
    (runs_stps (q' := (33, [.ref 34, .int x1, .int x2], [.int 6, .int (w2.1 34 26)], w2)) 3 rfl).trans <|
    (runs_if_f (a := 36) (b := 39) (L := [.ref 34, .int x1, .int x2]) (st := []) (w := w2) rfl h5).trans <|
    (runs_stps (q' := (48, [.ref 34, .int x1, .int x2], [.int x1, .int (w2.1 34 26), .ref 44], w2)) 5 rfl).trans <|
    (runs_ck (q' := (49, [.ref 34, .int x1, .int x2], [], updI w2 44 ((w2.1 34 26).toNatClampNeg) x1)) rfl h6).trans <|
    (runs_stps (q' := (58, [.ref 34, .int x1, .int x2], [.int x2, .int (w2.1 34 26), .ref 45], updI w2 44 ((w2.1 34 26).toNatClampNeg) x1)) 5 rfl).trans <|
    (runs_ck (q' := (59, [.ref 34, .int x1, .int x2], [], updI (updI w2 44 ((w2.1 34 26).toNatClampNeg) x1) 45 ((w2.1 34 26).toNatClampNeg) x2)) rfl h7).trans <|
    (runs_stps (q' := (73, [.ref 34, .int x1, .int x2], [.int ((w2.1 34 26) + 1)], updI (updI (updI w2 44 ((w2.1 34 26).toNatClampNeg) x1) 45 ((w2.1 34 26).toNatClampNeg) x2) 34 26 ((w2.1 34 26) + 1))) 8 rfl).trans <|
    runs_ret rfl
theorem p_X9_saw_0FTF_R {ex : Ex} {x1 : Int32} {x2 : Int32} {r1 : Int32} {w1 : Wd} {r2 : Int32} {w2 : Wd} {w : Wd} (h1 : ex 135 [.int x1, .int 0, .int 3] (updI w 34 0 0) = some (some (.int r1), w1)) (h2 : ¬ r1 = 0) (h3 : ex 135 [.int x2, .int 0, .int 1023] w1 = some (some (.int r2), w2)) (h4 : ¬ r2 = 0) (h5 : (w2.1 34 26) = 6) : runs (T_X9_saw ex) (0, [.ref 34, .int x1, .int x2], [], w) = some (some (.int (-3)), w2) := 
    (runs_stps (q' := (8, [.ref 34, .int x1, .int x2], [.int 3, .int 0, .int x1], updI w 34 0 0)) 6 rfl).trans <|
    (runs_callS (rv := some (.int r1)) (w' := w1) rfl rfl rfl h1).trans <|
    (runs_if_f (a := 25) (b := 14) (L := [.ref 34, .int x1, .int x2]) (st := []) (w := w1) rfl h2).trans <|
    (runs_stps (q' := (19, [.ref 34, .int x1, .int x2], [.int 1023, .int 0, .int x2], w1)) 3 rfl).trans <|
    (runs_callS (rv := some (.int r2)) (w' := w2) rfl rfl rfl h3).trans <|
    (runs_if_f (a := 25) (b := 27) (L := [.ref 34, .int x1, .int x2]) (st := []) (w := w2) rfl h4).trans <|
    (runs_stps (q' := (33, [.ref 34, .int x1, .int x2], [.int 6, .int (w2.1 34 26)], w2)) 3 rfl).trans <|
    (runs_if_t (a := 36) (b := 39) (L := [.ref 34, .int x1, .int x2]) (st := []) (w := w2) rfl h5).trans <|
    (runs_stps (q' := (38, [.ref 34, .int x1, .int x2], [.int (-3)], w2)) 1 rfl).trans <|
    runs_ret rfl
theorem p_X9_saw_0FF_R {ex : Ex} {x1 : Int32} {x2 : Int32} {r1 : Int32} {w1 : Wd} {r2 : Int32} {w2 : Wd} {w : Wd} (h1 : ex 135 [.int x1, .int 0, .int 3] (updI w 34 0 0) = some (some (.int r1), w1)) (h2 : ¬ r1 = 0) (h3 : ex 135 [.int x2, .int 0, .int 1023] w1 = some (some (.int r2), w2)) (h4 : r2 = 0) : runs (T_X9_saw ex) (0, [.ref 34, .int x1, .int x2], [], w) = some (some (.int (-1)), w2) := 
    (runs_stps (q' := (8, [.ref 34, .int x1, .int x2], [.int 3, .int 0, .int x1], updI w 34 0 0)) 6 rfl).trans <|
    (runs_callS (rv := some (.int r1)) (w' := w1) rfl rfl rfl h1).trans <|
    (runs_if_f (a := 25) (b := 14) (L := [.ref 34, .int x1, .int x2]) (st := []) (w := w1) rfl h2).trans <|
    (runs_stps (q' := (19, [.ref 34, .int x1, .int x2], [.int 1023, .int 0, .int x2], w1)) 3 rfl).trans <|
    (runs_callS (rv := some (.int r2)) (w' := w2) rfl rfl rfl h3).trans <|
    (runs_if_t (a := 25) (b := 27) (L := [.ref 34, .int x1, .int x2]) (st := []) (w := w2) rfl h4).trans <|
    (runs_stps (q' := (26, [.null, .null, .null], [.int (-1)], w2)) 1 rfl).trans <|
    runs_ret rfl
theorem p_X9_forget_0_R {ex : Ex} {w : Wd} : runs (T_X9_forget ex) (0, [.ref 34, .null], [], w) = some (some (.int (w.1 34 26)), updI (updI w 34 0 0) 34 26 0) := 
    (runs_stps (q' := (16, [.ref 34, .int (w.1 34 26)], [.int (w.1 34 26)], updI (updI w 34 0 0) 34 26 0)) 10 rfl).trans <|
    runs_ret rfl
theorem p_X9_withoutTop_0_L4 {ex : Ex} {x0 : Int32} {x1 : Int32} {w : Wd} : runs (T_X9_withoutTop ex) (0, [.int x0, .int x1, .null, .null], [], w) = runs (T_X9_withoutTop ex) (4, [.int x0, .int x1, .int x0, .int 0], [], w) := 
    (runs_stps (q' := (4, [.int x0, .int x1, .int x0, .int 0], [], w)) 4 rfl).trans <|
    rfl
theorem p_X9_withoutTop_4T_R {ex : Ex} {v0 : Value} {x1 : Int32} {x2 : Int32} {x3 : Int32} {w : Wd} (h1 : x1 ≤ x3) : runs (T_X9_withoutTop ex) (4, [v0, .int x1, .int x2, .int x3], [], w) = some (some (.int x2), w) := 
    (runs_stps (q' := (6, [.null, .int x1, .int x2, .int x3], [.int x1, .int x3], w)) 2 rfl).trans <|
    (runs_if_t (a := 20) (b := 9) (L := [.null, .int x1, .int x2, .int x3]) (st := []) (w := w) rfl h1).trans <|
    (runs_stps (q' := (21, [.null, .null, .int x2, .null], [.int x2], w)) 1 rfl).trans <|
    runs_ret rfl
theorem p_X9_withoutTop_4F_L4 {ex : Ex} {v0 : Value} {x1 : Int32} {x2 : Int32} {x3 : Int32} {w : Wd} (h1 : ¬ x1 ≤ x3) : runs (T_X9_withoutTop ex) (4, [v0, .int x1, .int x2, .int x3], [], w) = runs (T_X9_withoutTop ex) (4, [.null, .int x1, .int (x2 / 6), .int (x3 + 1)], [], w) := 
    (runs_stps (q' := (6, [.null, .int x1, .int x2, .int x3], [.int x1, .int x3], w)) 2 rfl).trans <|
    (runs_if_f (a := 20) (b := 9) (L := [.null, .int x1, .int x2, .int x3]) (st := []) (w := w) rfl h1).trans <|
    (runs_stps (q' := (4, [.null, .int x1, .int (x2 / 6), .int (x3 + 1)], [], w)) 6 rfl).trans <|
    rfl
theorem p_X9_isHat_0_L9 {ex : Ex} {x1 : Int32} {w : Wd} (h1 : vp_in x1 7776) : runs (T_X9_isHat ex) (0, [.ref 34, .int x1, .null, .null], [], w) = runs (T_X9_isHat ex) (9, [.ref 34, .int x1, .int (w.1 47 x1.toNatClampNeg), .int 0], [], w) := 
    (runs_stps (q' := (5, [.ref 34, .int x1, .null, .null], [.int x1, .ref 47], w)) 3 rfl).trans <|
    (runs_ck (q' := (6, [.ref 34, .int x1, .null, .null], [.int (w.1 47 x1.toNatClampNeg)], w)) rfl h1).trans <|
    (runs_stps (q' := (9, [.ref 34, .int x1, .int (w.1 47 x1.toNatClampNeg), .int 0], [], w)) 3 rfl).trans <|
    rfl
theorem p_X9_isHat_9T_R {ex : Ex} {x1 : Int32} {x2 : Int32} {x3 : Int32} {w : Wd} (h1 : (w.1 34 26) ≤ x3) (h2 : x2 = 0 ∨ x2 = 1) : runs (T_X9_isHat ex) (9, [.ref 34, .int x1, .int x2, .int x3], [], w) = some (some (.int x2), w) := 
    (runs_stps (q' := (14, [.ref 34, .int x1, .int x2, .int x3], [.int (w.1 34 26), .int x3], w)) 3 rfl).trans <|
    (runs_if_t (a := 69) (b := 17) (L := [.ref 34, .int x1, .int x2, .int x3]) (st := []) (w := w) rfl h1).trans <|
    (runs_stps (q' := (70, [.null, .null, .int x2, .null], [.int x2], w)) 1 rfl).trans <|
    runs_rck rfl h2
theorem p_X9_isHat_9FT_R {ex : Ex} {x1 : Int32} {x2 : Int32} {x3 : Int32} {w : Wd} (h1 : ¬ (w.1 34 26) ≤ x3) (h2 : x2 = 0) (h3 : x2 = 0 ∨ x2 = 1) : runs (T_X9_isHat ex) (9, [.ref 34, .int x1, .int x2, .int x3], [], w) = some (some (.int x2), w) := 
    (runs_stps (q' := (14, [.ref 34, .int x1, .int x2, .int x3], [.int (w.1 34 26), .int x3], w)) 3 rfl).trans <|
    (runs_if_f (a := 69) (b := 17) (L := [.ref 34, .int x1, .int x2, .int x3]) (st := []) (w := w) rfl h1).trans <|
    (runs_stps (q' := (18, [.ref 34, .int x1, .int x2, .int x3], [.int x2], w)) 1 rfl).trans <|
    (runs_if_t (a := 69) (b := 21) (L := [.ref 34, .int x1, .int x2, .int x3]) (st := []) (w := w) rfl h2).trans <|
    (runs_stps (q' := (70, [.null, .null, .int x2, .null], [.int x2], w)) 1 rfl).trans <|
    runs_rck rfl h3
theorem p_X9_isHat_9FFT_L9 {ex : Ex} {x1 : Int32} {x2 : Int32} {x3 : Int32} {r1 : Int32} {w1 : Wd} {w : Wd} (h1 : ¬ (w.1 34 26) ≤ x3) (h2 : ¬ x2 = 0) (h3 : ex 155 [.int x1] w = some (some (.int r1), w1)) (h4 : vp_in x3 6) (h5 : r1 < (w1.1 44 x3.toNatClampNeg)) : runs (T_X9_isHat ex) (9, [.ref 34, .int x1, .int x2, .int x3], [], w) = runs (T_X9_isHat ex) (9, [.ref 34, .int x1, .int 0, .int (x3 + 1)], [], w1) := 
    (runs_stps (q' := (14, [.ref 34, .int x1, .int x2, .int x3], [.int (w.1 34 26), .int x3], w)) 3 rfl).trans <|
    (runs_if_f (a := 69) (b := 17) (L := [.ref 34, .int x1, .int x2, .int x3]) (st := []) (w := w) rfl h1).trans <|
    (runs_stps (q' := (18, [.ref 34, .int x1, .int x2, .int x3], [.int x2], w)) 1 rfl).trans <|
    (runs_if_f (a := 69) (b := 21) (L := [.ref 34, .int x1, .int x2, .int x3]) (st := []) (w := w) rfl h2).trans <|
    (runs_stps (q' := (22, [.ref 34, .int x1, .int x2, .int x3], [.int x1], w)) 1 rfl).trans <|
    (runs_callS (rv := some (.int r1)) (w' := w1) rfl rfl rfl h3).trans <|
    (runs_stps (q' := (30, [.ref 34, .int x1, .int x2, .int x3], [.int x3, .ref 44, .int r1], w1)) 3 rfl).trans <|
    (runs_ck (q' := (31, [.ref 34, .int x1, .int x2, .int x3], [.int (w1.1 44 x3.toNatClampNeg), .int r1], w1)) rfl h4).trans <|
    (runs_if_t (a := 61) (b := 34) (L := [.ref 34, .int x1, .int x2, .int x3]) (st := []) (w := w1) rfl h5).trans <|
    (runs_stps (q' := (9, [.ref 34, .int x1, .int 0, .int (x3 + 1)], [], w1)) 4 rfl).trans <|
    rfl
theorem p_X9_isHat_9FFFT_L9 {ex : Ex} {x1 : Int32} {x2 : Int32} {x3 : Int32} {r1 : Int32} {w1 : Wd} {r2 : Int32} {w2 : Wd} {r3 : Int32} {w3 : Wd} {w : Wd} (h1 : ¬ (w.1 34 26) ≤ x3) (h2 : ¬ x2 = 0) (h3 : ex 155 [.int x1] w = some (some (.int r1), w1)) (h4 : vp_in x3 6) (h5 : ¬ r1 < (w1.1 44 x3.toNatClampNeg)) (h6 : vp_in x3 6) (h7 : ex 182 [.int x1, .int (w1.1 44 x3.toNatClampNeg)] w1 = some (some (.int r2), w2)) (h8 : ex 156 [.ref 34, .int r2] w2 = some (some (.int r3), w3)) (h9 : vp_in x3 6) (h10 : ¬ r3 = (w3.1 45 x3.toNatClampNeg)) : runs (T_X9_isHat ex) (9, [.ref 34, .int x1, .int x2, .int x3], [], w) = runs (T_X9_isHat ex) (9, [.ref 34, .int x1, .int 0, .int (x3 + 1)], [], w3) := 
    (runs_stps (q' := (14, [.ref 34, .int x1, .int x2, .int x3], [.int (w.1 34 26), .int x3], w)) 3 rfl).trans <|
    (runs_if_f (a := 69) (b := 17) (L := [.ref 34, .int x1, .int x2, .int x3]) (st := []) (w := w) rfl h1).trans <|
    (runs_stps (q' := (18, [.ref 34, .int x1, .int x2, .int x3], [.int x2], w)) 1 rfl).trans <|
    (runs_if_f (a := 69) (b := 21) (L := [.ref 34, .int x1, .int x2, .int x3]) (st := []) (w := w) rfl h2).trans <|
    (runs_stps (q' := (22, [.ref 34, .int x1, .int x2, .int x3], [.int x1], w)) 1 rfl).trans <|
    (runs_callS (rv := some (.int r1)) (w' := w1) rfl rfl rfl h3).trans <|
    (runs_stps (q' := (30, [.ref 34, .int x1, .int x2, .int x3], [.int x3, .ref 44, .int r1], w1)) 3 rfl).trans <|
    (runs_ck (q' := (31, [.ref 34, .int x1, .int x2, .int x3], [.int (w1.1 44 x3.toNatClampNeg), .int r1], w1)) rfl h4).trans <|
    (runs_if_f (a := 61) (b := 34) (L := [.ref 34, .int x1, .int x2, .int x3]) (st := []) (w := w1) rfl h5).trans <|
    (runs_stps (q' := (41, [.ref 34, .int x1, .int x2, .int x3], [.int x3, .ref 44, .int x1, .ref 34], w1)) 5 rfl).trans <|
    (runs_ck (q' := (42, [.ref 34, .int x1, .int x2, .int x3], [.int (w1.1 44 x3.toNatClampNeg), .int x1, .ref 34], w1)) rfl h6).trans <|
    (runs_callS (rv := some (.int r2)) (w' := w2) rfl rfl rfl h7).trans <|
    (runs_callV (rv := some (.int r3)) (w' := w3) rfl rfl rfl rfl h8).trans <|
    (runs_stps (q' := (53, [.ref 34, .int x1, .int x2, .int x3], [.int x3, .ref 45, .int r3], w3)) 3 rfl).trans <|
    (runs_ck (q' := (54, [.ref 34, .int x1, .int x2, .int x3], [.int (w3.1 45 x3.toNatClampNeg), .int r3], w3)) rfl h9).trans <|
    (runs_if_f (a := 57) (b := 61) (L := [.ref 34, .int x1, .int x2, .int x3]) (st := []) (w := w3) rfl h10).trans <|
    (runs_stps (q' := (9, [.ref 34, .int x1, .int 0, .int (x3 + 1)], [], w3)) 4 rfl).trans <|
    rfl
theorem p_X9_isHat_9FFFF_L9 {ex : Ex} {x1 : Int32} {x2 : Int32} {x3 : Int32} {r1 : Int32} {w1 : Wd} {r2 : Int32} {w2 : Wd} {r3 : Int32} {w3 : Wd} {w : Wd} (h1 : ¬ (w.1 34 26) ≤ x3) (h2 : ¬ x2 = 0) (h3 : ex 155 [.int x1] w = some (some (.int r1), w1)) (h4 : vp_in x3 6) (h5 : ¬ r1 < (w1.1 44 x3.toNatClampNeg)) (h6 : vp_in x3 6) (h7 : ex 182 [.int x1, .int (w1.1 44 x3.toNatClampNeg)] w1 = some (some (.int r2), w2)) (h8 : ex 156 [.ref 34, .int r2] w2 = some (some (.int r3), w3)) (h9 : vp_in x3 6) (h10 : r3 = (w3.1 45 x3.toNatClampNeg)) : runs (T_X9_isHat ex) (9, [.ref 34, .int x1, .int x2, .int x3], [], w) = runs (T_X9_isHat ex) (9, [.ref 34, .int x1, .int 1, .int (x3 + 1)], [], w3) := 
    (runs_stps (q' := (14, [.ref 34, .int x1, .int x2, .int x3], [.int (w.1 34 26), .int x3], w)) 3 rfl).trans <|
    (runs_if_f (a := 69) (b := 17) (L := [.ref 34, .int x1, .int x2, .int x3]) (st := []) (w := w) rfl h1).trans <|
    (runs_stps (q' := (18, [.ref 34, .int x1, .int x2, .int x3], [.int x2], w)) 1 rfl).trans <|
    (runs_if_f (a := 69) (b := 21) (L := [.ref 34, .int x1, .int x2, .int x3]) (st := []) (w := w) rfl h2).trans <|
    (runs_stps (q' := (22, [.ref 34, .int x1, .int x2, .int x3], [.int x1], w)) 1 rfl).trans <|
    (runs_callS (rv := some (.int r1)) (w' := w1) rfl rfl rfl h3).trans <|
    (runs_stps (q' := (30, [.ref 34, .int x1, .int x2, .int x3], [.int x3, .ref 44, .int r1], w1)) 3 rfl).trans <|
    (runs_ck (q' := (31, [.ref 34, .int x1, .int x2, .int x3], [.int (w1.1 44 x3.toNatClampNeg), .int r1], w1)) rfl h4).trans <|
    (runs_if_f (a := 61) (b := 34) (L := [.ref 34, .int x1, .int x2, .int x3]) (st := []) (w := w1) rfl h5).trans <|
    (runs_stps (q' := (41, [.ref 34, .int x1, .int x2, .int x3], [.int x3, .ref 44, .int x1, .ref 34], w1)) 5 rfl).trans <|
    (runs_ck (q' := (42, [.ref 34, .int x1, .int x2, .int x3], [.int (w1.1 44 x3.toNatClampNeg), .int x1, .ref 34], w1)) rfl h6).trans <|
    (runs_callS (rv := some (.int r2)) (w' := w2) rfl rfl rfl h7).trans <|
    (runs_callV (rv := some (.int r3)) (w' := w3) rfl rfl rfl rfl h8).trans <|
    (runs_stps (q' := (53, [.ref 34, .int x1, .int x2, .int x3], [.int x3, .ref 45, .int r3], w3)) 3 rfl).trans <|
    (runs_ck (q' := (54, [.ref 34, .int x1, .int x2, .int x3], [.int (w3.1 45 x3.toNatClampNeg), .int r3], w3)) rfl h9).trans <|
    (runs_if_t (a := 57) (b := 61) (L := [.ref 34, .int x1, .int x2, .int x3]) (st := []) (w := w3) rfl h10).trans <|
    (runs_stps (q' := (9, [.ref 34, .int x1, .int 1, .int (x3 + 1)], [], w3)) 5 rfl).trans <|
    rfl
theorem p_X9_could_0_L9 {ex : Ex} {w : Wd} : runs (T_X9_could ex) (0, [.ref 34, .null, .null], [], w) = runs (T_X9_could ex) (9, [.ref 34, .int 0, .int 0], [], updI w 34 0 0) := 
    (runs_stps (q' := (9, [.ref 34, .int 0, .int 0], [], updI w 34 0 0)) 7 rfl).trans <|
    rfl
theorem p_X9_could_9T_R {ex : Ex} {x1 : Int32} {x2 : Int32} {w : Wd} (h1 : 216 ≤ x2) : runs (T_X9_could ex) (9, [.ref 34, .int x1, .int x2], [], w) = some (some (.int x1), w) := 
    (runs_stps (q' := (13, [.ref 34, .int x1, .int x2], [.int 216, .int x2], w)) 2 rfl).trans <|
    (runs_if_t (a := 38) (b := 16) (L := [.ref 34, .int x1, .int x2]) (st := []) (w := w) rfl h1).trans <|
    (runs_stps (q' := (39, [.null, .int x1, .null], [.int x1], w)) 1 rfl).trans <|
    runs_ret rfl
theorem p_X9_could_9FT_L9 {ex : Ex} {x1 : Int32} {x2 : Int32} {r1 : Int32} {w1 : Wd} {w : Wd} (h1 : ¬ 216 ≤ x2) (h2 : ex 183 [.ref 34, .int x2] w = some (some (.int r1), w1)) (h3 : r1 = 0) : runs (T_X9_could ex) (9, [.ref 34, .int x1, .int x2], [], w) = runs (T_X9_could ex) (9, [.ref 34, .int (x1 + 0), .int (x2 + 1)], [], w1) := 
    (runs_stps (q' := (13, [.ref 34, .int x1, .int x2], [.int 216, .int x2], w)) 2 rfl).trans <|
    (runs_if_f (a := 38) (b := 16) (L := [.ref 34, .int x1, .int x2]) (st := []) (w := w) rfl h1).trans <|
    (runs_stps (q' := (19, [.ref 34, .int x1, .int x2], [.int x2, .ref 34, .int x1], w)) 3 rfl).trans <|
    (runs_callV (rv := some (.int r1)) (w' := w1) rfl rfl rfl rfl h2).trans <|
    (runs_if_t (a := 29) (b := 25) (L := [.ref 34, .int x1, .int x2]) (st := [.int x1]) (w := w1) rfl h3).trans <|
    (runs_stps (q' := (9, [.ref 34, .int (x1 + 0), .int (x2 + 1)], [], w1)) 5 rfl).trans <|
    rfl
theorem p_X9_could_9FF_L9 {ex : Ex} {x1 : Int32} {x2 : Int32} {r1 : Int32} {w1 : Wd} {w : Wd} (h1 : ¬ 216 ≤ x2) (h2 : ex 183 [.ref 34, .int x2] w = some (some (.int r1), w1)) (h3 : ¬ r1 = 0) : runs (T_X9_could ex) (9, [.ref 34, .int x1, .int x2], [], w) = runs (T_X9_could ex) (9, [.ref 34, .int (x1 + 1), .int (x2 + 1)], [], w1) := 
    (runs_stps (q' := (13, [.ref 34, .int x1, .int x2], [.int 216, .int x2], w)) 2 rfl).trans <|
    (runs_if_f (a := 38) (b := 16) (L := [.ref 34, .int x1, .int x2]) (st := []) (w := w) rfl h1).trans <|
    (runs_stps (q' := (19, [.ref 34, .int x1, .int x2], [.int x2, .ref 34, .int x1], w)) 3 rfl).trans <|
    (runs_callV (rv := some (.int r1)) (w' := w1) rfl rfl rfl rfl h2).trans <|
    (runs_if_f (a := 29) (b := 25) (L := [.ref 34, .int x1, .int x2]) (st := [.int x1]) (w := w1) rfl h3).trans <|
    (runs_stps (q' := (9, [.ref 34, .int (x1 + 1), .int (x2 + 1)], [], w1)) 6 rfl).trans <|
    rfl
theorem p_X9_under_0T_L21 {ex : Ex} {x1 : Int32} {r1 : Int32} {w1 : Wd} {w : Wd} (h1 : ex 135 [.int x1, .int 0, .int 2] (updI w 34 0 0) = some (some (.int r1), w1)) (h2 : ¬ r1 = 0) : runs (T_X9_under ex) (0, [.ref 34, .int x1, .null, .null, .null], [], w) = runs (T_X9_under ex) (21, [.ref 34, .int x1, .int (-9), .int 0, .null], [], w1) := 
    (runs_stps (q' := (8, [.ref 34, .int x1, .null, .null, .null], [.int 2, .int 0, .int x1], updI w 34 0 0)) 6 rfl).trans <|
    (runs_callS (rv := some (.int r1)) (w' := w1) rfl rfl rfl h1).trans <|
    (runs_if_f (a := 14) (b := 16) (L := [.ref 34, .int x1, .null, .null, .null]) (st := []) (w := w1) rfl h2).trans <|
    (runs_stps (q' := (21, [.ref 34, .int x1, .int (-9), .int 0, .null], [], w1)) 4 rfl).trans <|
    rfl
theorem p_X9_under_0F_R {ex : Ex} {x1 : Int32} {r1 : Int32} {w1 : Wd} {w : Wd} (h1 : ex 135 [.int x1, .int 0, .int 2] (updI w 34 0 0) = some (some (.int r1), w1)) (h2 : r1 = 0) : runs (T_X9_under ex) (0, [.ref 34, .int x1, .null, .null, .null], [], w) = some (some (.int (-1)), w1) := 
    (runs_stps (q' := (8, [.ref 34, .int x1, .null, .null, .null], [.int 2, .int 0, .int x1], updI w 34 0 0)) 6 rfl).trans <|
    (runs_callS (rv := some (.int r1)) (w' := w1) rfl rfl rfl h1).trans <|
    (runs_if_t (a := 14) (b := 16) (L := [.ref 34, .int x1, .null, .null, .null]) (st := []) (w := w1) rfl h2).trans <|
    (runs_stps (q' := (15, [.ref 34, .int x1, .null, .null, .null], [.int (-1)], w1)) 1 rfl).trans <|
    runs_ret rfl
theorem p_X9_under_21T_R {ex : Ex} {x1 : Int32} {x2 : Int32} {x3 : Int32} {v4 : Value} {w : Wd} (h1 : 216 ≤ x3) : runs (T_X9_under ex) (21, [.ref 34, .int x1, .int x2, .int x3, v4], [], w) = some (some (.int x2), w) := 
    (runs_stps (q' := (25, [.ref 34, .int x1, .int x2, .int x3, .null], [.int 216, .int x3], w)) 2 rfl).trans <|
    (runs_if_t (a := 84) (b := 28) (L := [.ref 34, .int x1, .int x2, .int x3, .null]) (st := []) (w := w) rfl h1).trans <|
    (runs_stps (q' := (85, [.null, .null, .int x2, .null, .null], [.int x2], w)) 1 rfl).trans <|
    runs_ret rfl
theorem p_X9_under_21FT_L21 {ex : Ex} {x1 : Int32} {x2 : Int32} {x3 : Int32} {v4 : Value} {r1 : Int32} {w1 : Wd} {w : Wd} (h1 : ¬ 216 ≤ x3) (h2 : ex 183 [.ref 34, .int x3] w = some (some (.int r1), w1)) (h3 : r1 = 0) : runs (T_X9_under ex) (21, [.ref 34, .int x1, .int x2, .int x3, v4], [], w) = runs (T_X9_under ex) (21, [.ref 34, .int x1, .int x2, .int (x3 + 1), .null], [], w1) := 
    (runs_stps (q' := (25, [.ref 34, .int x1, .int x2, .int x3, .null], [.int 216, .int x3], w)) 2 rfl).trans <|
    (runs_if_f (a := 84) (b := 28) (L := [.ref 34, .int x1, .int x2, .int x3, .null]) (st := []) (w := w) rfl h1).trans <|
    (runs_stps (q' := (30, [.ref 34, .int x1, .int x2, .int x3, .null], [.int x3, .ref 34], w)) 2 rfl).trans <|
    (runs_callV (rv := some (.int r1)) (w' := w1) rfl rfl rfl rfl h2).trans <|
    (runs_if_t (a := 78) (b := 36) (L := [.ref 34, .int x1, .int x2, .int x3, .null]) (st := []) (w := w1) rfl h3).trans <|
    (runs_stps (q' := (21, [.ref 34, .int x1, .int x2, .int (x3 + 1), .null], [], w1)) 2 rfl).trans <|
    rfl
theorem p_X9_under_21FFTT_L21 {ex : Ex} {x1 : Int32} {x2 : Int32} {x3 : Int32} {v4 : Value} {r1 : Int32} {w1 : Wd} {r2 : Int32} {w2 : Wd} {r3 : Int32} {w3 : Wd} {w : Wd} (h1 : ¬ 216 ≤ x3) (h2 : ex 183 [.ref 34, .int x3] w = some (some (.int r1), w1)) (h3 : ¬ r1 = 0) (h4 : ex 158 [.int x3, .int x1] w1 = some (some (.int r2), w2)) (h5 : ¬ r2 = (-9)) (h6 : ex 158 [.int x3, .int x1] w2 = some (some (.int r3), w3)) (h7 : x2 = (-9)) : runs (T_X9_under ex) (21, [.ref 34, .int x1, .int x2, .int x3, v4], [], w) = runs (T_X9_under ex) (21, [.ref 34, .int x1, .int r3, .int (x3 + 1), .null], [], w3) := 
    (runs_stps (q' := (25, [.ref 34, .int x1, .int x2, .int x3, .null], [.int 216, .int x3], w)) 2 rfl).trans <|
    (runs_if_f (a := 84) (b := 28) (L := [.ref 34, .int x1, .int x2, .int x3, .null]) (st := []) (w := w) rfl h1).trans <|
    (runs_stps (q' := (30, [.ref 34, .int x1, .int x2, .int x3, .null], [.int x3, .ref 34], w)) 2 rfl).trans <|
    (runs_callV (rv := some (.int r1)) (w' := w1) rfl rfl rfl rfl h2).trans <|
    (runs_if_f (a := 78) (b := 36) (L := [.ref 34, .int x1, .int x2, .int x3, .null]) (st := []) (w := w1) rfl h3).trans <|
    (runs_stps (q' := (38, [.ref 34, .int x1, .int x2, .int x3, .null], [.int x1, .int x3], w1)) 2 rfl).trans <|
    (runs_callS (rv := some (.int r2)) (w' := w2) rfl rfl rfl h4).trans <|
    (runs_stps (q' := (43, [.ref 34, .int x1, .int x2, .int x3, .null], [.int (-9), .int r2], w2)) 1 rfl).trans <|
    (runs_if_f (a := 46) (b := 51) (L := [.ref 34, .int x1, .int x2, .int x3, .null]) (st := []) (w := w2) rfl h5).trans <|
    (runs_stps (q' := (53, [.ref 34, .int x1, .int x2, .int x3, .null], [.int x1, .int x3], w2)) 2 rfl).trans <|
    (runs_callS (rv := some (.int r3)) (w' := w3) rfl rfl rfl h6).trans <|
    (runs_stps (q' := (61, [.ref 34, .int x1, .int x2, .int x3, .int r3], [.int (-9), .int x2], w3)) 3 rfl).trans <|
    (runs_if_t (a := 70) (b := 64) (L := [.ref 34, .int x1, .int x2, .int x3, .int r3]) (st := []) (w := w3) rfl h7).trans <|
    (runs_stps (q' := (21, [.ref 34, .int x1, .int r3, .int (x3 + 1), .null], [], w3)) 5 rfl).trans <|
    rfl
theorem p_X9_under_21FFTFT_L21 {ex : Ex} {x1 : Int32} {x2 : Int32} {x3 : Int32} {v4 : Value} {r1 : Int32} {w1 : Wd} {r2 : Int32} {w2 : Wd} {r3 : Int32} {w3 : Wd} {w : Wd} (h1 : ¬ 216 ≤ x3) (h2 : ex 183 [.ref 34, .int x3] w = some (some (.int r1), w1)) (h3 : ¬ r1 = 0) (h4 : ex 158 [.int x3, .int x1] w1 = some (some (.int r2), w2)) (h5 : ¬ r2 = (-9)) (h6 : ex 158 [.int x3, .int x1] w2 = some (some (.int r3), w3)) (h7 : ¬ x2 = (-9)) (h8 : ¬ x2 = r3) : runs (T_X9_under ex) (21, [.ref 34, .int x1, .int x2, .int x3, v4], [], w) = runs (T_X9_under ex) (21, [.ref 34, .int x1, .int (-5), .int (x3 + 1), .null], [], w3) := 
    (runs_stps (q' := (25, [.ref 34, .int x1, .int x2, .int x3, .null], [.int 216, .int x3], w)) 2 rfl).trans <|
    (runs_if_f (a := 84) (b := 28) (L := [.ref 34, .int x1, .int x2, .int x3, .null]) (st := []) (w := w) rfl h1).trans <|
    (runs_stps (q' := (30, [.ref 34, .int x1, .int x2, .int x3, .null], [.int x3, .ref 34], w)) 2 rfl).trans <|
    (runs_callV (rv := some (.int r1)) (w' := w1) rfl rfl rfl rfl h2).trans <|
    (runs_if_f (a := 78) (b := 36) (L := [.ref 34, .int x1, .int x2, .int x3, .null]) (st := []) (w := w1) rfl h3).trans <|
    (runs_stps (q' := (38, [.ref 34, .int x1, .int x2, .int x3, .null], [.int x1, .int x3], w1)) 2 rfl).trans <|
    (runs_callS (rv := some (.int r2)) (w' := w2) rfl rfl rfl h4).trans <|
    (runs_stps (q' := (43, [.ref 34, .int x1, .int x2, .int x3, .null], [.int (-9), .int r2], w2)) 1 rfl).trans <|
    (runs_if_f (a := 46) (b := 51) (L := [.ref 34, .int x1, .int x2, .int x3, .null]) (st := []) (w := w2) rfl h5).trans <|
    (runs_stps (q' := (53, [.ref 34, .int x1, .int x2, .int x3, .null], [.int x1, .int x3], w2)) 2 rfl).trans <|
    (runs_callS (rv := some (.int r3)) (w' := w3) rfl rfl rfl h6).trans <|
    (runs_stps (q' := (61, [.ref 34, .int x1, .int x2, .int x3, .int r3], [.int (-9), .int x2], w3)) 3 rfl).trans <|
    (runs_if_f (a := 70) (b := 64) (L := [.ref 34, .int x1, .int x2, .int x3, .int r3]) (st := []) (w := w3) rfl h7).trans <|
    (runs_stps (q' := (67, [.ref 34, .int x1, .int x2, .int x3, .int r3], [.int r3, .int x2], w3)) 2 rfl).trans <|
    (runs_if_f (a := 70) (b := 75) (L := [.ref 34, .int x1, .int x2, .int x3, .int r3]) (st := []) (w := w3) rfl h8).trans <|
    (runs_stps (q' := (21, [.ref 34, .int x1, .int (-5), .int (x3 + 1), .null], [], w3)) 4 rfl).trans <|
    rfl
theorem p_X9_under_21FFTFF_L21 {ex : Ex} {x1 : Int32} {x2 : Int32} {x3 : Int32} {v4 : Value} {r1 : Int32} {w1 : Wd} {r2 : Int32} {w2 : Wd} {r3 : Int32} {w3 : Wd} {w : Wd} (h1 : ¬ 216 ≤ x3) (h2 : ex 183 [.ref 34, .int x3] w = some (some (.int r1), w1)) (h3 : ¬ r1 = 0) (h4 : ex 158 [.int x3, .int x1] w1 = some (some (.int r2), w2)) (h5 : ¬ r2 = (-9)) (h6 : ex 158 [.int x3, .int x1] w2 = some (some (.int r3), w3)) (h7 : ¬ x2 = (-9)) (h8 : x2 = r3) : runs (T_X9_under ex) (21, [.ref 34, .int x1, .int x2, .int x3, v4], [], w) = runs (T_X9_under ex) (21, [.ref 34, .int x1, .int r3, .int (x3 + 1), .null], [], w3) := 
    (runs_stps (q' := (25, [.ref 34, .int x1, .int x2, .int x3, .null], [.int 216, .int x3], w)) 2 rfl).trans <|
    (runs_if_f (a := 84) (b := 28) (L := [.ref 34, .int x1, .int x2, .int x3, .null]) (st := []) (w := w) rfl h1).trans <|
    (runs_stps (q' := (30, [.ref 34, .int x1, .int x2, .int x3, .null], [.int x3, .ref 34], w)) 2 rfl).trans <|
    (runs_callV (rv := some (.int r1)) (w' := w1) rfl rfl rfl rfl h2).trans <|
    (runs_if_f (a := 78) (b := 36) (L := [.ref 34, .int x1, .int x2, .int x3, .null]) (st := []) (w := w1) rfl h3).trans <|
    (runs_stps (q' := (38, [.ref 34, .int x1, .int x2, .int x3, .null], [.int x1, .int x3], w1)) 2 rfl).trans <|
    (runs_callS (rv := some (.int r2)) (w' := w2) rfl rfl rfl h4).trans <|
    (runs_stps (q' := (43, [.ref 34, .int x1, .int x2, .int x3, .null], [.int (-9), .int r2], w2)) 1 rfl).trans <|
    (runs_if_f (a := 46) (b := 51) (L := [.ref 34, .int x1, .int x2, .int x3, .null]) (st := []) (w := w2) rfl h5).trans <|
    (runs_stps (q' := (53, [.ref 34, .int x1, .int x2, .int x3, .null], [.int x1, .int x3], w2)) 2 rfl).trans <|
    (runs_callS (rv := some (.int r3)) (w' := w3) rfl rfl rfl h6).trans <|
    (runs_stps (q' := (61, [.ref 34, .int x1, .int x2, .int x3, .int r3], [.int (-9), .int x2], w3)) 3 rfl).trans <|
    (runs_if_f (a := 70) (b := 64) (L := [.ref 34, .int x1, .int x2, .int x3, .int r3]) (st := []) (w := w3) rfl h7).trans <|
    (runs_stps (q' := (67, [.ref 34, .int x1, .int x2, .int x3, .int r3], [.int r3, .int x2], w3)) 2 rfl).trans <|
    (runs_if_t (a := 70) (b := 75) (L := [.ref 34, .int x1, .int x2, .int x3, .int r3]) (st := []) (w := w3) rfl h8).trans <|
    (runs_stps (q' := (21, [.ref 34, .int x1, .int r3, .int (x3 + 1), .null], [], w3)) 5 rfl).trans <|
    rfl
theorem p_X9_under_21FFFT_L21 {ex : Ex} {x1 : Int32} {x2 : Int32} {x3 : Int32} {v4 : Value} {r1 : Int32} {w1 : Wd} {r2 : Int32} {w2 : Wd} {w : Wd} (h1 : ¬ 216 ≤ x3) (h2 : ex 183 [.ref 34, .int x3] w = some (some (.int r1), w1)) (h3 : ¬ r1 = 0) (h4 : ex 158 [.int x3, .int x1] w1 = some (some (.int r2), w2)) (h5 : r2 = (-9)) (h6 : x2 = (-9)) : runs (T_X9_under ex) (21, [.ref 34, .int x1, .int x2, .int x3, v4], [], w) = runs (T_X9_under ex) (21, [.ref 34, .int x1, .int (-5), .int (x3 + 1), .null], [], w2) := 
    (runs_stps (q' := (25, [.ref 34, .int x1, .int x2, .int x3, .null], [.int 216, .int x3], w)) 2 rfl).trans <|
    (runs_if_f (a := 84) (b := 28) (L := [.ref 34, .int x1, .int x2, .int x3, .null]) (st := []) (w := w) rfl h1).trans <|
    (runs_stps (q' := (30, [.ref 34, .int x1, .int x2, .int x3, .null], [.int x3, .ref 34], w)) 2 rfl).trans <|
    (runs_callV (rv := some (.int r1)) (w' := w1) rfl rfl rfl rfl h2).trans <|
    (runs_if_f (a := 78) (b := 36) (L := [.ref 34, .int x1, .int x2, .int x3, .null]) (st := []) (w := w1) rfl h3).trans <|
    (runs_stps (q' := (38, [.ref 34, .int x1, .int x2, .int x3, .null], [.int x1, .int x3], w1)) 2 rfl).trans <|
    (runs_callS (rv := some (.int r2)) (w' := w2) rfl rfl rfl h4).trans <|
    (runs_stps (q' := (43, [.ref 34, .int x1, .int x2, .int x3, .null], [.int (-9), .int r2], w2)) 1 rfl).trans <|
    (runs_if_t (a := 46) (b := 51) (L := [.ref 34, .int x1, .int x2, .int x3, .null]) (st := []) (w := w2) rfl h5).trans <|
    (runs_stps (q' := (61, [.ref 34, .int x1, .int x2, .int x3, .int (-5)], [.int (-9), .int x2], w2)) 5 rfl).trans <|
    (runs_if_t (a := 70) (b := 64) (L := [.ref 34, .int x1, .int x2, .int x3, .int (-5)]) (st := []) (w := w2) rfl h6).trans <|
    (runs_stps (q' := (21, [.ref 34, .int x1, .int (-5), .int (x3 + 1), .null], [], w2)) 5 rfl).trans <|
    rfl
theorem p_X9_under_21FFFFT_L21 {ex : Ex} {x1 : Int32} {x2 : Int32} {x3 : Int32} {v4 : Value} {r1 : Int32} {w1 : Wd} {r2 : Int32} {w2 : Wd} {w : Wd} (h1 : ¬ 216 ≤ x3) (h2 : ex 183 [.ref 34, .int x3] w = some (some (.int r1), w1)) (h3 : ¬ r1 = 0) (h4 : ex 158 [.int x3, .int x1] w1 = some (some (.int r2), w2)) (h5 : r2 = (-9)) (h6 : ¬ x2 = (-9)) (h7 : ¬ x2 = (-5)) : runs (T_X9_under ex) (21, [.ref 34, .int x1, .int x2, .int x3, v4], [], w) = runs (T_X9_under ex) (21, [.ref 34, .int x1, .int (-5), .int (x3 + 1), .null], [], w2) := 
    (runs_stps (q' := (25, [.ref 34, .int x1, .int x2, .int x3, .null], [.int 216, .int x3], w)) 2 rfl).trans <|
    (runs_if_f (a := 84) (b := 28) (L := [.ref 34, .int x1, .int x2, .int x3, .null]) (st := []) (w := w) rfl h1).trans <|
    (runs_stps (q' := (30, [.ref 34, .int x1, .int x2, .int x3, .null], [.int x3, .ref 34], w)) 2 rfl).trans <|
    (runs_callV (rv := some (.int r1)) (w' := w1) rfl rfl rfl rfl h2).trans <|
    (runs_if_f (a := 78) (b := 36) (L := [.ref 34, .int x1, .int x2, .int x3, .null]) (st := []) (w := w1) rfl h3).trans <|
    (runs_stps (q' := (38, [.ref 34, .int x1, .int x2, .int x3, .null], [.int x1, .int x3], w1)) 2 rfl).trans <|
    (runs_callS (rv := some (.int r2)) (w' := w2) rfl rfl rfl h4).trans <|
    (runs_stps (q' := (43, [.ref 34, .int x1, .int x2, .int x3, .null], [.int (-9), .int r2], w2)) 1 rfl).trans <|
    (runs_if_t (a := 46) (b := 51) (L := [.ref 34, .int x1, .int x2, .int x3, .null]) (st := []) (w := w2) rfl h5).trans <|
    (runs_stps (q' := (61, [.ref 34, .int x1, .int x2, .int x3, .int (-5)], [.int (-9), .int x2], w2)) 5 rfl).trans <|
    (runs_if_f (a := 70) (b := 64) (L := [.ref 34, .int x1, .int x2, .int x3, .int (-5)]) (st := []) (w := w2) rfl h6).trans <|
    (runs_stps (q' := (67, [.ref 34, .int x1, .int x2, .int x3, .int (-5)], [.int (-5), .int x2], w2)) 2 rfl).trans <|
    (runs_if_f (a := 70) (b := 75) (L := [.ref 34, .int x1, .int x2, .int x3, .int (-5)]) (st := []) (w := w2) rfl h7).trans <|
    (runs_stps (q' := (21, [.ref 34, .int x1, .int (-5), .int (x3 + 1), .null], [], w2)) 4 rfl).trans <|
    rfl
theorem p_X9_under_21FFFFF_L21 {ex : Ex} {x1 : Int32} {x2 : Int32} {x3 : Int32} {v4 : Value} {r1 : Int32} {w1 : Wd} {r2 : Int32} {w2 : Wd} {w : Wd} (h1 : ¬ 216 ≤ x3) (h2 : ex 183 [.ref 34, .int x3] w = some (some (.int r1), w1)) (h3 : ¬ r1 = 0) (h4 : ex 158 [.int x3, .int x1] w1 = some (some (.int r2), w2)) (h5 : r2 = (-9)) (h6 : ¬ x2 = (-9)) (h7 : x2 = (-5)) : runs (T_X9_under ex) (21, [.ref 34, .int x1, .int x2, .int x3, v4], [], w) = runs (T_X9_under ex) (21, [.ref 34, .int x1, .int (-5), .int (x3 + 1), .null], [], w2) := 
    (runs_stps (q' := (25, [.ref 34, .int x1, .int x2, .int x3, .null], [.int 216, .int x3], w)) 2 rfl).trans <|
    (runs_if_f (a := 84) (b := 28) (L := [.ref 34, .int x1, .int x2, .int x3, .null]) (st := []) (w := w) rfl h1).trans <|
    (runs_stps (q' := (30, [.ref 34, .int x1, .int x2, .int x3, .null], [.int x3, .ref 34], w)) 2 rfl).trans <|
    (runs_callV (rv := some (.int r1)) (w' := w1) rfl rfl rfl rfl h2).trans <|
    (runs_if_f (a := 78) (b := 36) (L := [.ref 34, .int x1, .int x2, .int x3, .null]) (st := []) (w := w1) rfl h3).trans <|
    (runs_stps (q' := (38, [.ref 34, .int x1, .int x2, .int x3, .null], [.int x1, .int x3], w1)) 2 rfl).trans <|
    (runs_callS (rv := some (.int r2)) (w' := w2) rfl rfl rfl h4).trans <|
    (runs_stps (q' := (43, [.ref 34, .int x1, .int x2, .int x3, .null], [.int (-9), .int r2], w2)) 1 rfl).trans <|
    (runs_if_t (a := 46) (b := 51) (L := [.ref 34, .int x1, .int x2, .int x3, .null]) (st := []) (w := w2) rfl h5).trans <|
    (runs_stps (q' := (61, [.ref 34, .int x1, .int x2, .int x3, .int (-5)], [.int (-9), .int x2], w2)) 5 rfl).trans <|
    (runs_if_f (a := 70) (b := 64) (L := [.ref 34, .int x1, .int x2, .int x3, .int (-5)]) (st := []) (w := w2) rfl h6).trans <|
    (runs_stps (q' := (67, [.ref 34, .int x1, .int x2, .int x3, .int (-5)], [.int (-5), .int x2], w2)) 2 rfl).trans <|
    (runs_if_t (a := 70) (b := 75) (L := [.ref 34, .int x1, .int x2, .int x3, .int (-5)]) (st := []) (w := w2) rfl h7).trans <|
    (runs_stps (q' := (21, [.ref 34, .int x1, .int (-5), .int (x3 + 1), .null], [], w2)) 5 rfl).trans <|
    rfl
theorem p_X9_atWorst_0_L2 {ex : Ex} {x1 : Int32} {w : Wd} : runs (T_X9_atWorst ex) (0, [.ref 34, .int x1, .null, .null, .null, .null], [], w) = runs (T_X9_atWorst ex) (2, [.ref 34, .int x1, .int 0, .null, .null, .null], [], w) := 
    (runs_stps (q' := (2, [.ref 34, .int x1, .int 0, .null, .null, .null], [], w)) 2 rfl).trans <|
    rfl
theorem p_X9_atWorst_2T_L29 {ex : Ex} {x1 : Int32} {x2 : Int32} {v3 : Value} {v4 : Value} {v5 : Value} {w : Wd} (h1 : 1024 ≤ x2) : runs (T_X9_atWorst ex) (2, [.ref 34, .int x1, .int x2, v3, v4, v5], [], w) = runs (T_X9_atWorst ex) (29, [.ref 34, .int x1, .int 0, .int 0, .int 0, .null], [], w) := 
    (runs_stps (q' := (6, [.ref 34, .int x1, .int x2, .null, .null, .null], [.int 1024, .int x2], w)) 2 rfl).trans <|
    (runs_if_t (a := 22) (b := 9) (L := [.ref 34, .int x1, .int x2, .null, .null, .null]) (st := []) (w := w) rfl h1).trans <|
    (runs_stps (q' := (29, [.ref 34, .int x1, .int 0, .int 0, .int 0, .null], [], w)) 6 rfl).trans <|
    rfl
theorem p_X9_atWorst_2F_L2 {ex : Ex} {x1 : Int32} {x2 : Int32} {v3 : Value} {v4 : Value} {v5 : Value} {w : Wd} (h1 : ¬ 1024 ≤ x2) (h2 : vp_in x2 1024) : runs (T_X9_atWorst ex) (2, [.ref 34, .int x1, .int x2, v3, v4, v5], [], w) = runs (T_X9_atWorst ex) (2, [.ref 34, .int x1, .int (x2 + 1), .null, .null, .null], [], updI w 49 x2.toNatClampNeg 0) := 
    (runs_stps (q' := (6, [.ref 34, .int x1, .int x2, .null, .null, .null], [.int 1024, .int x2], w)) 2 rfl).trans <|
    (runs_if_f (a := 22) (b := 9) (L := [.ref 34, .int x1, .int x2, .null, .null, .null]) (st := []) (w := w) rfl h1).trans <|
    (runs_stps (q' := (15, [.ref 34, .int x1, .int x2, .null, .null, .null], [.int 0, .int x2, .ref 49], w)) 4 rfl).trans <|
    (runs_ck (q' := (16, [.ref 34, .int x1, .int x2, .null, .null, .null], [], updI w 49 x2.toNatClampNeg 0)) rfl h2).trans <|
    (runs_stps (q' := (2, [.ref 34, .int x1, .int (x2 + 1), .null, .null, .null], [], updI w 49 x2.toNatClampNeg 0)) 2 rfl).trans <|
    rfl
theorem p_X9_atWorst_29T_R {ex : Ex} {x1 : Int32} {x2 : Int32} {x3 : Int32} {x4 : Int32} {v5 : Value} {w : Wd} (h1 : 216 ≤ x4) : runs (T_X9_atWorst ex) (29, [.ref 34, .int x1, .int x2, .int x3, .int x4, v5], [], w) = some (some (.int x3), w) := 
    (runs_stps (q' := (34, [.ref 34, .int x1, .int x2, .int x3, .int x4, .null], [.int 216, .int x4], w)) 2 rfl).trans <|
    (runs_if_t (a := 124) (b := 37) (L := [.ref 34, .int x1, .int x2, .int x3, .int x4, .null]) (st := []) (w := w) rfl h1).trans <|
    (runs_stps (q' := (125, [.null, .null, .null, .int x3, .null, .null], [.int x3], w)) 1 rfl).trans <|
    runs_ret rfl
theorem p_X9_atWorst_29FT_L29 {ex : Ex} {x1 : Int32} {x2 : Int32} {x3 : Int32} {x4 : Int32} {v5 : Value} {r1 : Int32} {w1 : Wd} {w : Wd} (h1 : ¬ 216 ≤ x4) (h2 : ex 183 [.ref 34, .int x4] w = some (some (.int r1), w1)) (h3 : r1 = 0) : runs (T_X9_atWorst ex) (29, [.ref 34, .int x1, .int x2, .int x3, .int x4, v5], [], w) = runs (T_X9_atWorst ex) (29, [.ref 34, .int x1, .int x2, .int x3, .int (x4 + 1), .null], [], w1) := 
    (runs_stps (q' := (34, [.ref 34, .int x1, .int x2, .int x3, .int x4, .null], [.int 216, .int x4], w)) 2 rfl).trans <|
    (runs_if_f (a := 124) (b := 37) (L := [.ref 34, .int x1, .int x2, .int x3, .int x4, .null]) (st := []) (w := w) rfl h1).trans <|
    (runs_stps (q' := (40, [.ref 34, .int x1, .int x2, .int x3, .int x4, .null], [.int x4, .ref 34], w)) 2 rfl).trans <|
    (runs_callV (rv := some (.int r1)) (w' := w1) rfl rfl rfl rfl h2).trans <|
    (runs_if_t (a := 118) (b := 46) (L := [.ref 34, .int x1, .int x2, .int x3, .int x4, .null]) (st := []) (w := w1) rfl h3).trans <|
    (runs_stps (q' := (29, [.ref 34, .int x1, .int x2, .int x3, .int (x4 + 1), .null], [], w1)) 2 rfl).trans <|
    rfl
theorem p_X9_atWorst_29FFTT_L29 {ex : Ex} {x1 : Int32} {x2 : Int32} {x3 : Int32} {x4 : Int32} {v5 : Value} {r1 : Int32} {w1 : Wd} {r2 : Int32} {w2 : Wd} {r3 : Int32} {w3 : Wd} {r4 : Int32} {w4 : Wd} {w : Wd} (h1 : ¬ 216 ≤ x4) (h2 : ex 183 [.ref 34, .int x4] w = some (some (.int r1), w1)) (h3 : ¬ r1 = 0) (h4 : ex 155 [.int x4] w1 = some (some (.int r2), w2)) (h5 : x1 ≤ r2) (h6 : ex 182 [.int x4, .int x1] w2 = some (some (.int r3), w3)) (h7 : ex 156 [.ref 34, .int r3] w3 = some (some (.int r4), w4)) (h8 : vp_in r4 1024) (h9 : vp_in r4 1024) (h10 : vp_in r4 1024) (h11 : ((updI w4 49 r4.toNatClampNeg ((w4.1 49 r4.toNatClampNeg) + 1)).1 49 r4.toNatClampNeg) ≤ x3) : runs (T_X9_atWorst ex) (29, [.ref 34, .int x1, .int x2, .int x3, .int x4, v5], [], w) = runs (T_X9_atWorst ex) (29, [.ref 34, .int x1, .int x2, .int x3, .int (x4 + 1), .null], [], updI w4 49 r4.toNatClampNeg ((w4.1 49 r4.toNatClampNeg) + 1)) := 
    (runs_stps (q' := (34, [.ref 34, .int x1, .int x2, .int x3, .int x4, .null], [.int 216, .int x4], w)) 2 rfl).trans <|
    (runs_if_f (a := 124) (b := 37) (L := [.ref 34, .int x1, .int x2, .int x3, .int x4, .null]) (st := []) (w := w) rfl h1).trans <|
    (runs_stps (q' := (40, [.ref 34, .int x1, .int x2, .int x3, .int x4, .null], [.int x4, .ref 34], w)) 2 rfl).trans <|
    (runs_callV (rv := some (.int r1)) (w' := w1) rfl rfl rfl rfl h2).trans <|
    (runs_if_f (a := 118) (b := 46) (L := [.ref 34, .int x1, .int x2, .int x3, .int x4, .null]) (st := []) (w := w1) rfl h3).trans <|
    (runs_stps (q' := (48, [.ref 34, .int x1, .int x2, .int x3, .int x4, .null], [.int x4], w1)) 1 rfl).trans <|
    (runs_callS (rv := some (.int r2)) (w' := w2) rfl rfl rfl h4).trans <|
    (runs_stps (q' := (52, [.ref 34, .int x1, .int x2, .int x3, .int x4, .null], [.int x1, .int r2], w2)) 1 rfl).trans <|
    (runs_if_t (a := 72) (b := 55) (L := [.ref 34, .int x1, .int x2, .int x3, .int x4, .null]) (st := []) (w := w2) rfl h5).trans <|
    (runs_stps (q' := (76, [.ref 34, .int x1, .int x2, .int x3, .int x4, .null], [.int x1, .int x4, .ref 34], w2)) 3 rfl).trans <|
    (runs_callS (rv := some (.int r3)) (w' := w3) rfl rfl rfl h6).trans <|
    (runs_callV (rv := some (.int r4)) (w' := w4) rfl rfl rfl rfl h7).trans <|
    (runs_stps (q' := (91, [.ref 34, .int x1, .int x2, .int x3, .int x4, .int r4], [.int r4, .ref 49, .int r4, .ref 49], w4)) 5 rfl).trans <|
    (runs_ck (q' := (92, [.ref 34, .int x1, .int x2, .int x3, .int x4, .int r4], [.int (w4.1 49 r4.toNatClampNeg), .int r4, .ref 49], w4)) rfl h8).trans <|
    (runs_stps (q' := (94, [.ref 34, .int x1, .int x2, .int x3, .int x4, .int r4], [.int ((w4.1 49 r4.toNatClampNeg) + 1), .int r4, .ref 49], w4)) 2 rfl).trans <|
    (runs_ck (q' := (95, [.ref 34, .int x1, .int x2, .int x3, .int x4, .int r4], [], updI w4 49 r4.toNatClampNeg ((w4.1 49 r4.toNatClampNeg) + 1))) rfl h9).trans <|
    (runs_stps (q' := (101, [.ref 34, .int x1, .int x2, .int x3, .int x4, .int r4], [.int r4, .ref 49], updI w4 49 r4.toNatClampNeg ((w4.1 49 r4.toNatClampNeg) + 1))) 3 rfl).trans <|
    (runs_ck (q' := (102, [.ref 34, .int x1, .int x2, .int x3, .int x4, .int r4], [.int ((updI w4 49 r4.toNatClampNeg ((w4.1 49 r4.toNatClampNeg) + 1)).1 49 r4.toNatClampNeg)], updI w4 49 r4.toNatClampNeg ((w4.1 49 r4.toNatClampNeg) + 1))) rfl h10).trans <|
    (runs_stps (q' := (103, [.ref 34, .int x1, .int x2, .int x3, .int x4, .int r4], [.int x3, .int ((updI w4 49 r4.toNatClampNeg ((w4.1 49 r4.toNatClampNeg) + 1)).1 49 r4.toNatClampNeg)], updI w4 49 r4.toNatClampNeg ((w4.1 49 r4.toNatClampNeg) + 1))) 1 rfl).trans <|
    (runs_if_t (a := 116) (b := 106) (L := [.ref 34, .int x1, .int x2, .int x3, .int x4, .int r4]) (st := []) (w := updI w4 49 r4.toNatClampNeg ((w4.1 49 r4.toNatClampNeg) + 1)) rfl h11).trans <|
    (runs_stps (q' := (29, [.ref 34, .int x1, .int x2, .int x3, .int (x4 + 1), .null], [], updI w4 49 r4.toNatClampNeg ((w4.1 49 r4.toNatClampNeg) + 1))) 4 rfl).trans <|
    rfl
theorem p_X9_atWorst_29FFTF_L29 {ex : Ex} {x1 : Int32} {x2 : Int32} {x3 : Int32} {x4 : Int32} {v5 : Value} {r1 : Int32} {w1 : Wd} {r2 : Int32} {w2 : Wd} {r3 : Int32} {w3 : Wd} {r4 : Int32} {w4 : Wd} {w : Wd} (h1 : ¬ 216 ≤ x4) (h2 : ex 183 [.ref 34, .int x4] w = some (some (.int r1), w1)) (h3 : ¬ r1 = 0) (h4 : ex 155 [.int x4] w1 = some (some (.int r2), w2)) (h5 : x1 ≤ r2) (h6 : ex 182 [.int x4, .int x1] w2 = some (some (.int r3), w3)) (h7 : ex 156 [.ref 34, .int r3] w3 = some (some (.int r4), w4)) (h8 : vp_in r4 1024) (h9 : vp_in r4 1024) (h10 : vp_in r4 1024) (h11 : ¬ ((updI w4 49 r4.toNatClampNeg ((w4.1 49 r4.toNatClampNeg) + 1)).1 49 r4.toNatClampNeg) ≤ x3) (h12 : vp_in r4 1024) : runs (T_X9_atWorst ex) (29, [.ref 34, .int x1, .int x2, .int x3, .int x4, v5], [], w) = runs (T_X9_atWorst ex) (29, [.ref 34, .int x1, .int x2, .int ((updI w4 49 r4.toNatClampNeg ((w4.1 49 r4.toNatClampNeg) + 1)).1 49 r4.toNatClampNeg), .int (x4 + 1), .null], [], updI w4 49 r4.toNatClampNeg ((w4.1 49 r4.toNatClampNeg) + 1)) := 
    (runs_stps (q' := (34, [.ref 34, .int x1, .int x2, .int x3, .int x4, .null], [.int 216, .int x4], w)) 2 rfl).trans <|
    (runs_if_f (a := 124) (b := 37) (L := [.ref 34, .int x1, .int x2, .int x3, .int x4, .null]) (st := []) (w := w) rfl h1).trans <|
    (runs_stps (q' := (40, [.ref 34, .int x1, .int x2, .int x3, .int x4, .null], [.int x4, .ref 34], w)) 2 rfl).trans <|
    (runs_callV (rv := some (.int r1)) (w' := w1) rfl rfl rfl rfl h2).trans <|
    (runs_if_f (a := 118) (b := 46) (L := [.ref 34, .int x1, .int x2, .int x3, .int x4, .null]) (st := []) (w := w1) rfl h3).trans <|
    (runs_stps (q' := (48, [.ref 34, .int x1, .int x2, .int x3, .int x4, .null], [.int x4], w1)) 1 rfl).trans <|
    (runs_callS (rv := some (.int r2)) (w' := w2) rfl rfl rfl h4).trans <|
    (runs_stps (q' := (52, [.ref 34, .int x1, .int x2, .int x3, .int x4, .null], [.int x1, .int r2], w2)) 1 rfl).trans <|
    (runs_if_t (a := 72) (b := 55) (L := [.ref 34, .int x1, .int x2, .int x3, .int x4, .null]) (st := []) (w := w2) rfl h5).trans <|
    (runs_stps (q' := (76, [.ref 34, .int x1, .int x2, .int x3, .int x4, .null], [.int x1, .int x4, .ref 34], w2)) 3 rfl).trans <|
    (runs_callS (rv := some (.int r3)) (w' := w3) rfl rfl rfl h6).trans <|
    (runs_callV (rv := some (.int r4)) (w' := w4) rfl rfl rfl rfl h7).trans <|
    (runs_stps (q' := (91, [.ref 34, .int x1, .int x2, .int x3, .int x4, .int r4], [.int r4, .ref 49, .int r4, .ref 49], w4)) 5 rfl).trans <|
    (runs_ck (q' := (92, [.ref 34, .int x1, .int x2, .int x3, .int x4, .int r4], [.int (w4.1 49 r4.toNatClampNeg), .int r4, .ref 49], w4)) rfl h8).trans <|
    (runs_stps (q' := (94, [.ref 34, .int x1, .int x2, .int x3, .int x4, .int r4], [.int ((w4.1 49 r4.toNatClampNeg) + 1), .int r4, .ref 49], w4)) 2 rfl).trans <|
    (runs_ck (q' := (95, [.ref 34, .int x1, .int x2, .int x3, .int x4, .int r4], [], updI w4 49 r4.toNatClampNeg ((w4.1 49 r4.toNatClampNeg) + 1))) rfl h9).trans <|
    (runs_stps (q' := (101, [.ref 34, .int x1, .int x2, .int x3, .int x4, .int r4], [.int r4, .ref 49], updI w4 49 r4.toNatClampNeg ((w4.1 49 r4.toNatClampNeg) + 1))) 3 rfl).trans <|
    (runs_ck (q' := (102, [.ref 34, .int x1, .int x2, .int x3, .int x4, .int r4], [.int ((updI w4 49 r4.toNatClampNeg ((w4.1 49 r4.toNatClampNeg) + 1)).1 49 r4.toNatClampNeg)], updI w4 49 r4.toNatClampNeg ((w4.1 49 r4.toNatClampNeg) + 1))) rfl h10).trans <|
    (runs_stps (q' := (103, [.ref 34, .int x1, .int x2, .int x3, .int x4, .int r4], [.int x3, .int ((updI w4 49 r4.toNatClampNeg ((w4.1 49 r4.toNatClampNeg) + 1)).1 49 r4.toNatClampNeg)], updI w4 49 r4.toNatClampNeg ((w4.1 49 r4.toNatClampNeg) + 1))) 1 rfl).trans <|
    (runs_if_f (a := 116) (b := 106) (L := [.ref 34, .int x1, .int x2, .int x3, .int x4, .int r4]) (st := []) (w := updI w4 49 r4.toNatClampNeg ((w4.1 49 r4.toNatClampNeg) + 1)) rfl h11).trans <|
    (runs_stps (q' := (112, [.ref 34, .int x1, .int x2, .int x3, .int x4, .int r4], [.int r4, .ref 49], updI w4 49 r4.toNatClampNeg ((w4.1 49 r4.toNatClampNeg) + 1))) 3 rfl).trans <|
    (runs_ck (q' := (113, [.ref 34, .int x1, .int x2, .int x3, .int x4, .int r4], [.int ((updI w4 49 r4.toNatClampNeg ((w4.1 49 r4.toNatClampNeg) + 1)).1 49 r4.toNatClampNeg)], updI w4 49 r4.toNatClampNeg ((w4.1 49 r4.toNatClampNeg) + 1))) rfl h12).trans <|
    (runs_stps (q' := (29, [.ref 34, .int x1, .int x2, .int ((updI w4 49 r4.toNatClampNeg ((w4.1 49 r4.toNatClampNeg) + 1)).1 49 r4.toNatClampNeg), .int (x4 + 1), .null], [], updI w4 49 r4.toNatClampNeg ((w4.1 49 r4.toNatClampNeg) + 1))) 4 rfl).trans <|
    rfl
theorem p_X9_atWorst_29FFFT_L29 {ex : Ex} {x1 : Int32} {x2 : Int32} {x3 : Int32} {x4 : Int32} {v5 : Value} {r1 : Int32} {w1 : Wd} {r2 : Int32} {w2 : Wd} {w : Wd} (h1 : ¬ 216 ≤ x4) (h2 : ex 183 [.ref 34, .int x4] w = some (some (.int r1), w1)) (h3 : ¬ r1 = 0) (h4 : ex 155 [.int x4] w1 = some (some (.int r2), w2)) (h5 : ¬ x1 ≤ r2) (h6 : (x2 + 1) ≤ x3) : runs (T_X9_atWorst ex) (29, [.ref 34, .int x1, .int x2, .int x3, .int x4, v5], [], w) = runs (T_X9_atWorst ex) (29, [.ref 34, .int x1, .int (x2 + 1), .int x3, .int (x4 + 1), .null], [], w2) := 
    (runs_stps (q' := (34, [.ref 34, .int x1, .int x2, .int x3, .int x4, .null], [.int 216, .int x4], w)) 2 rfl).trans <|
    (runs_if_f (a := 124) (b := 37) (L := [.ref 34, .int x1, .int x2, .int x3, .int x4, .null]) (st := []) (w := w) rfl h1).trans <|
    (runs_stps (q' := (40, [.ref 34, .int x1, .int x2, .int x3, .int x4, .null], [.int x4, .ref 34], w)) 2 rfl).trans <|
    (runs_callV (rv := some (.int r1)) (w' := w1) rfl rfl rfl rfl h2).trans <|
    (runs_if_f (a := 118) (b := 46) (L := [.ref 34, .int x1, .int x2, .int x3, .int x4, .null]) (st := []) (w := w1) rfl h3).trans <|
    (runs_stps (q' := (48, [.ref 34, .int x1, .int x2, .int x3, .int x4, .null], [.int x4], w1)) 1 rfl).trans <|
    (runs_callS (rv := some (.int r2)) (w' := w2) rfl rfl rfl h4).trans <|
    (runs_stps (q' := (52, [.ref 34, .int x1, .int x2, .int x3, .int x4, .null], [.int x1, .int r2], w2)) 1 rfl).trans <|
    (runs_if_f (a := 72) (b := 55) (L := [.ref 34, .int x1, .int x2, .int x3, .int x4, .null]) (st := []) (w := w2) rfl h5).trans <|
    (runs_stps (q' := (60, [.ref 34, .int x1, .int (x2 + 1), .int x3, .int x4, .null], [.int x3, .int (x2 + 1)], w2)) 3 rfl).trans <|
    (runs_if_t (a := 67) (b := 63) (L := [.ref 34, .int x1, .int (x2 + 1), .int x3, .int x4, .null]) (st := []) (w := w2) rfl h6).trans <|
    (runs_stps (q' := (29, [.ref 34, .int x1, .int (x2 + 1), .int x3, .int (x4 + 1), .null], [], w2)) 5 rfl).trans <|
    rfl
theorem p_X9_atWorst_29FFFF_L29 {ex : Ex} {x1 : Int32} {x2 : Int32} {x3 : Int32} {x4 : Int32} {v5 : Value} {r1 : Int32} {w1 : Wd} {r2 : Int32} {w2 : Wd} {w : Wd} (h1 : ¬ 216 ≤ x4) (h2 : ex 183 [.ref 34, .int x4] w = some (some (.int r1), w1)) (h3 : ¬ r1 = 0) (h4 : ex 155 [.int x4] w1 = some (some (.int r2), w2)) (h5 : ¬ x1 ≤ r2) (h6 : ¬ (x2 + 1) ≤ x3) : runs (T_X9_atWorst ex) (29, [.ref 34, .int x1, .int x2, .int x3, .int x4, v5], [], w) = runs (T_X9_atWorst ex) (29, [.ref 34, .int x1, .int (x2 + 1), .int (x2 + 1), .int (x4 + 1), .null], [], w2) := 
    (runs_stps (q' := (34, [.ref 34, .int x1, .int x2, .int x3, .int x4, .null], [.int 216, .int x4], w)) 2 rfl).trans <|
    (runs_if_f (a := 124) (b := 37) (L := [.ref 34, .int x1, .int x2, .int x3, .int x4, .null]) (st := []) (w := w) rfl h1).trans <|
    (runs_stps (q' := (40, [.ref 34, .int x1, .int x2, .int x3, .int x4, .null], [.int x4, .ref 34], w)) 2 rfl).trans <|
    (runs_callV (rv := some (.int r1)) (w' := w1) rfl rfl rfl rfl h2).trans <|
    (runs_if_f (a := 118) (b := 46) (L := [.ref 34, .int x1, .int x2, .int x3, .int x4, .null]) (st := []) (w := w1) rfl h3).trans <|
    (runs_stps (q' := (48, [.ref 34, .int x1, .int x2, .int x3, .int x4, .null], [.int x4], w1)) 1 rfl).trans <|
    (runs_callS (rv := some (.int r2)) (w' := w2) rfl rfl rfl h4).trans <|
    (runs_stps (q' := (52, [.ref 34, .int x1, .int x2, .int x3, .int x4, .null], [.int x1, .int r2], w2)) 1 rfl).trans <|
    (runs_if_f (a := 72) (b := 55) (L := [.ref 34, .int x1, .int x2, .int x3, .int x4, .null]) (st := []) (w := w2) rfl h5).trans <|
    (runs_stps (q' := (60, [.ref 34, .int x1, .int (x2 + 1), .int x3, .int x4, .null], [.int x3, .int (x2 + 1)], w2)) 3 rfl).trans <|
    (runs_if_f (a := 67) (b := 63) (L := [.ref 34, .int x1, .int (x2 + 1), .int x3, .int x4, .null]) (st := []) (w := w2) rfl h6).trans <|
    (runs_stps (q' := (29, [.ref 34, .int x1, .int (x2 + 1), .int (x2 + 1), .int (x4 + 1), .null], [], w2)) 6 rfl).trans <|
    rfl
theorem p_X9_lifted_0_L10 {ex : Ex} {w : Wd} : runs (T_X9_lifted ex) (0, [.ref 34, .null, .null, .null], [], w) = runs (T_X9_lifted ex) (10, [.ref 34, .int (-9), .int 0, .null], [], updI w 34 0 0) := 
    (runs_stps (q' := (10, [.ref 34, .int (-9), .int 0, .null], [], updI w 34 0 0)) 7 rfl).trans <|
    rfl
theorem p_X9_lifted_10T_R {ex : Ex} {x1 : Int32} {x2 : Int32} {v3 : Value} {w : Wd} (h1 : 4 ≤ x2) : runs (T_X9_lifted ex) (10, [.ref 34, .int x1, .int x2, v3], [], w) = some (some (.int x1), w) := 
    (runs_stps (q' := (12, [.ref 34, .int x1, .int x2, .null], [.int 4, .int x2], w)) 2 rfl).trans <|
    (runs_if_t (a := 52) (b := 15) (L := [.ref 34, .int x1, .int x2, .null]) (st := []) (w := w) rfl h1).trans <|
    (runs_stps (q' := (53, [.null, .int x1, .null, .null], [.int x1], w)) 1 rfl).trans <|
    runs_ret rfl
theorem p_X9_lifted_10FT_L10 {ex : Ex} {x1 : Int32} {x2 : Int32} {v3 : Value} {r1 : Int32} {w1 : Wd} {w : Wd} (h1 : ¬ 4 ≤ x2) (h2 : ex 186 [.ref 34, .int x2] w = some (some (.int r1), w1)) (h3 : r1 ≤ 0) : runs (T_X9_lifted ex) (10, [.ref 34, .int x1, .int x2, v3], [], w) = runs (T_X9_lifted ex) (10, [.ref 34, .int x1, .int (x2 + 1), .null], [], w1) := 
    (runs_stps (q' := (12, [.ref 34, .int x1, .int x2, .null], [.int 4, .int x2], w)) 2 rfl).trans <|
    (runs_if_f (a := 52) (b := 15) (L := [.ref 34, .int x1, .int x2, .null]) (st := []) (w := w) rfl h1).trans <|
    (runs_stps (q' := (17, [.ref 34, .int x1, .int x2, .null], [.int x2, .ref 34], w)) 2 rfl).trans <|
    (runs_callV (rv := some (.int r1)) (w' := w1) rfl rfl rfl rfl h2).trans <|
    (runs_stps (q' := (22, [.ref 34, .int x1, .int x2, .int r1], [.int r1], w1)) 2 rfl).trans <|
    (runs_if_t (a := 44) (b := 25) (L := [.ref 34, .int x1, .int x2, .int r1]) (st := []) (w := w1) rfl h3).trans <|
    (runs_stps (q' := (10, [.ref 34, .int x1, .int (x2 + 1), .null], [], w1)) 4 rfl).trans <|
    rfl
theorem p_X9_lifted_10FFT_L10 {ex : Ex} {x1 : Int32} {x2 : Int32} {v3 : Value} {r1 : Int32} {w1 : Wd} {w : Wd} (h1 : ¬ 4 ≤ x2) (h2 : ex 186 [.ref 34, .int x2] w = some (some (.int r1), w1)) (h3 : ¬ r1 ≤ 0) (h4 : x1 = (-9)) : runs (T_X9_lifted ex) (10, [.ref 34, .int x1, .int x2, v3], [], w) = runs (T_X9_lifted ex) (10, [.ref 34, .int x2, .int (x2 + 1), .null], [], w1) := 
    (runs_stps (q' := (12, [.ref 34, .int x1, .int x2, .null], [.int 4, .int x2], w)) 2 rfl).trans <|
    (runs_if_f (a := 52) (b := 15) (L := [.ref 34, .int x1, .int x2, .null]) (st := []) (w := w) rfl h1).trans <|
    (runs_stps (q' := (17, [.ref 34, .int x1, .int x2, .null], [.int x2, .ref 34], w)) 2 rfl).trans <|
    (runs_callV (rv := some (.int r1)) (w' := w1) rfl rfl rfl rfl h2).trans <|
    (runs_stps (q' := (22, [.ref 34, .int x1, .int x2, .int r1], [.int r1], w1)) 2 rfl).trans <|
    (runs_if_f (a := 44) (b := 25) (L := [.ref 34, .int x1, .int x2, .int r1]) (st := []) (w := w1) rfl h3).trans <|
    (runs_stps (q' := (28, [.ref 34, .int x1, .int x2, .int r1], [.int (-9), .int x1], w1)) 2 rfl).trans <|
    (runs_if_t (a := 40) (b := 31) (L := [.ref 34, .int x1, .int x2, .int r1]) (st := []) (w := w1) rfl h4).trans <|
    (runs_stps (q' := (10, [.ref 34, .int x2, .int (x2 + 1), .null], [], w1)) 5 rfl).trans <|
    rfl
theorem p_X9_lifted_10FFFT_L10 {ex : Ex} {x1 : Int32} {x2 : Int32} {v3 : Value} {r1 : Int32} {w1 : Wd} {r2 : Int32} {w2 : Wd} {w : Wd} (h1 : ¬ 4 ≤ x2) (h2 : ex 186 [.ref 34, .int x2] w = some (some (.int r1), w1)) (h3 : ¬ r1 ≤ 0) (h4 : ¬ x1 = (-9)) (h5 : ex 186 [.ref 34, .int x1] w1 = some (some (.int r2), w2)) (h6 : r2 ≤ r1) : runs (T_X9_lifted ex) (10, [.ref 34, .int x1, .int x2, v3], [], w) = runs (T_X9_lifted ex) (10, [.ref 34, .int x1, .int (x2 + 1), .null], [], w2) := 
    (runs_stps (q' := (12, [.ref 34, .int x1, .int x2, .null], [.int 4, .int x2], w)) 2 rfl).trans <|
    (runs_if_f (a := 52) (b := 15) (L := [.ref 34, .int x1, .int x2, .null]) (st := []) (w := w) rfl h1).trans <|
    (runs_stps (q' := (17, [.ref 34, .int x1, .int x2, .null], [.int x2, .ref 34], w)) 2 rfl).trans <|
    (runs_callV (rv := some (.int r1)) (w' := w1) rfl rfl rfl rfl h2).trans <|
    (runs_stps (q' := (22, [.ref 34, .int x1, .int x2, .int r1], [.int r1], w1)) 2 rfl).trans <|
    (runs_if_f (a := 44) (b := 25) (L := [.ref 34, .int x1, .int x2, .int r1]) (st := []) (w := w1) rfl h3).trans <|
    (runs_stps (q' := (28, [.ref 34, .int x1, .int x2, .int r1], [.int (-9), .int x1], w1)) 2 rfl).trans <|
    (runs_if_f (a := 40) (b := 31) (L := [.ref 34, .int x1, .int x2, .int r1]) (st := []) (w := w1) rfl h4).trans <|
    (runs_stps (q' := (34, [.ref 34, .int x1, .int x2, .int r1], [.int x1, .ref 34, .int r1], w1)) 3 rfl).trans <|
    (runs_callV (rv := some (.int r2)) (w' := w2) rfl rfl rfl rfl h5).trans <|
    (runs_if_t (a := 44) (b := 40) (L := [.ref 34, .int x1, .int x2, .int r1]) (st := []) (w := w2) rfl h6).trans <|
    (runs_stps (q' := (10, [.ref 34, .int x1, .int (x2 + 1), .null], [], w2)) 4 rfl).trans <|
    rfl
theorem p_X9_lifted_10FFFF_L10 {ex : Ex} {x1 : Int32} {x2 : Int32} {v3 : Value} {r1 : Int32} {w1 : Wd} {r2 : Int32} {w2 : Wd} {w : Wd} (h1 : ¬ 4 ≤ x2) (h2 : ex 186 [.ref 34, .int x2] w = some (some (.int r1), w1)) (h3 : ¬ r1 ≤ 0) (h4 : ¬ x1 = (-9)) (h5 : ex 186 [.ref 34, .int x1] w1 = some (some (.int r2), w2)) (h6 : ¬ r2 ≤ r1) : runs (T_X9_lifted ex) (10, [.ref 34, .int x1, .int x2, v3], [], w) = runs (T_X9_lifted ex) (10, [.ref 34, .int x2, .int (x2 + 1), .null], [], w2) := 
    (runs_stps (q' := (12, [.ref 34, .int x1, .int x2, .null], [.int 4, .int x2], w)) 2 rfl).trans <|
    (runs_if_f (a := 52) (b := 15) (L := [.ref 34, .int x1, .int x2, .null]) (st := []) (w := w) rfl h1).trans <|
    (runs_stps (q' := (17, [.ref 34, .int x1, .int x2, .null], [.int x2, .ref 34], w)) 2 rfl).trans <|
    (runs_callV (rv := some (.int r1)) (w' := w1) rfl rfl rfl rfl h2).trans <|
    (runs_stps (q' := (22, [.ref 34, .int x1, .int x2, .int r1], [.int r1], w1)) 2 rfl).trans <|
    (runs_if_f (a := 44) (b := 25) (L := [.ref 34, .int x1, .int x2, .int r1]) (st := []) (w := w1) rfl h3).trans <|
    (runs_stps (q' := (28, [.ref 34, .int x1, .int x2, .int r1], [.int (-9), .int x1], w1)) 2 rfl).trans <|
    (runs_if_f (a := 40) (b := 31) (L := [.ref 34, .int x1, .int x2, .int r1]) (st := []) (w := w1) rfl h4).trans <|
    (runs_stps (q' := (34, [.ref 34, .int x1, .int x2, .int r1], [.int x1, .ref 34, .int r1], w1)) 3 rfl).trans <|
    (runs_callV (rv := some (.int r2)) (w' := w2) rfl rfl rfl rfl h5).trans <|
    (runs_if_f (a := 44) (b := 40) (L := [.ref 34, .int x1, .int x2, .int r1]) (st := []) (w := w2) rfl h6).trans <|
    (runs_stps (q' := (10, [.ref 34, .int x2, .int (x2 + 1), .null], [], w2)) 5 rfl).trans <|
    rfl
theorem p_X9_folds_0T_R {ex : Ex} {x1 : Int32} {x2 : Int32} {w : Wd} (h1 : x1 < 0) : runs (T_X9_folds ex) (0, [.ref 34, .int x1, .int x2], [], w) = some (none, w) := 
    (runs_stps (q' := (1, [.ref 34, .int x1, .int x2], [.int x1], w)) 1 rfl).trans <|
    (runs_if_t (a := 64) (b := 4) (L := [.ref 34, .int x1, .int x2]) (st := []) (w := w) rfl h1).trans <|
    runs_ret rfl
theorem p_X9_folds_0FTT_R {ex : Ex} {x1 : Int32} {x2 : Int32} {w : Wd} (h1 : ¬ x1 < 0) (h2 : ¬ (x1 - x1 / 2 * 2) = 0) (h3 : ¬ x2 = 0) (h4 : vp_in x1 4) (h5 : vp_in x1 4) : runs (T_X9_folds ex) (0, [.ref 34, .int x1, .int x2], [], w) = some (none, updI w 52 x1.toNatClampNeg (w.1 52 x1.toNatClampNeg)) := 
    (runs_stps (q' := (1, [.ref 34, .int x1, .int x2], [.int x1], w)) 1 rfl).trans <|
    (runs_if_f (a := 64) (b := 4) (L := [.ref 34, .int x1, .int x2]) (st := []) (w := w) rfl h1).trans <|
    (runs_stps (q' := (12, [.ref 34, .int x1, .int x2], [.int (x1 - x1 / 2 * 2), .int x1, .ref 52], w)) 6 rfl).trans <|
    (runs_if_f (a := 15) (b := 49) (L := [.ref 34, .int x1, .int x2]) (st := [.int x1, .ref 52]) (w := w) rfl h2).trans <|
    (runs_stps (q' := (50, [.ref 34, .int x1, .int x2], [.int x2, .int x1, .ref 52], w)) 1 rfl).trans <|
    (runs_if_f (a := 53) (b := 57) (L := [.ref 34, .int x1, .int x2]) (st := [.int x1, .ref 52]) (w := w) rfl h3).trans <|
    (runs_stps (q' := (62, [.ref 34, .int x1, .null], [.int x1, .ref 52, .int x1, .ref 52], w)) 3 rfl).trans <|
    (runs_ck (q' := (63, [.ref 34, .int x1, .null], [.int (w.1 52 x1.toNatClampNeg), .int x1, .ref 52], w)) rfl h4).trans <|
    (runs_ck (q' := (64, [.null, .null, .null], [], updI w 52 x1.toNatClampNeg (w.1 52 x1.toNatClampNeg))) rfl h5).trans <|
    runs_ret rfl
theorem p_X9_folds_0FTF_R {ex : Ex} {x1 : Int32} {x2 : Int32} {w : Wd} (h1 : ¬ x1 < 0) (h2 : ¬ (x1 - x1 / 2 * 2) = 0) (h3 : x2 = 0) (h4 : vp_in x1 4) : runs (T_X9_folds ex) (0, [.ref 34, .int x1, .int x2], [], w) = some (none, updI w 52 x1.toNatClampNeg 0) := 
    (runs_stps (q' := (1, [.ref 34, .int x1, .int x2], [.int x1], w)) 1 rfl).trans <|
    (runs_if_f (a := 64) (b := 4) (L := [.ref 34, .int x1, .int x2]) (st := []) (w := w) rfl h1).trans <|
    (runs_stps (q' := (12, [.ref 34, .int x1, .int x2], [.int (x1 - x1 / 2 * 2), .int x1, .ref 52], w)) 6 rfl).trans <|
    (runs_if_f (a := 15) (b := 49) (L := [.ref 34, .int x1, .int x2]) (st := [.int x1, .ref 52]) (w := w) rfl h2).trans <|
    (runs_stps (q' := (50, [.ref 34, .int x1, .int x2], [.int x2, .int x1, .ref 52], w)) 1 rfl).trans <|
    (runs_if_t (a := 53) (b := 57) (L := [.ref 34, .int x1, .int x2]) (st := [.int x1, .ref 52]) (w := w) rfl h3).trans <|
    (runs_stps (q' := (63, [.ref 34, .int x1, .int x2], [.int 0, .int x1, .ref 52], w)) 2 rfl).trans <|
    (runs_ck (q' := (64, [.null, .null, .null], [], updI w 52 x1.toNatClampNeg 0)) rfl h4).trans <|
    runs_ret rfl
theorem p_X9_folds_0FFT_R {ex : Ex} {x1 : Int32} {x2 : Int32} {w : Wd} (h1 : ¬ x1 < 0) (h2 : (x1 - x1 / 2 * 2) = 0) (h3 : vp_in x1 4) (h4 : ¬ (w.1 52 x1.toNatClampNeg) = (-9)) (h5 : vp_in x1 4) (h6 : vp_in x1 4) : runs (T_X9_folds ex) (0, [.ref 34, .int x1, .int x2], [], w) = some (none, updI w 52 x1.toNatClampNeg (w.1 52 x1.toNatClampNeg)) := 
    (runs_stps (q' := (1, [.ref 34, .int x1, .int x2], [.int x1], w)) 1 rfl).trans <|
    (runs_if_f (a := 64) (b := 4) (L := [.ref 34, .int x1, .int x2]) (st := []) (w := w) rfl h1).trans <|
    (runs_stps (q' := (12, [.ref 34, .int x1, .int x2], [.int (x1 - x1 / 2 * 2), .int x1, .ref 52], w)) 6 rfl).trans <|
    (runs_if_t (a := 15) (b := 49) (L := [.ref 34, .int x1, .int x2]) (st := [.int x1, .ref 52]) (w := w) rfl h2).trans <|
    (runs_stps (q' := (20, [.ref 34, .int x1, .int x2], [.int x1, .ref 52, .int x1, .ref 52], w)) 3 rfl).trans <|
    (runs_ck (q' := (21, [.ref 34, .int x1, .int x2], [.int (w.1 52 x1.toNatClampNeg), .int x1, .ref 52], w)) rfl h3).trans <|
    (runs_stps (q' := (23, [.ref 34, .int x1, .int x2], [.int (-9), .int (w.1 52 x1.toNatClampNeg), .int x1, .ref 52], w)) 1 rfl).trans <|
    (runs_if_f (a := 26) (b := 40) (L := [.ref 34, .int x1, .int x2]) (st := [.int x1, .ref 52]) (w := w) rfl h4).trans <|
    (runs_stps (q' := (45, [.ref 34, .int x1, .null], [.int x1, .ref 52, .int x1, .ref 52], w)) 3 rfl).trans <|
    (runs_ck (q' := (46, [.ref 34, .int x1, .null], [.int (w.1 52 x1.toNatClampNeg), .int x1, .ref 52], w)) rfl h5).trans <|
    (runs_stps (q' := (63, [.ref 34, .int x1, .null], [.int (w.1 52 x1.toNatClampNeg), .int x1, .ref 52], w)) 1 rfl).trans <|
    (runs_ck (q' := (64, [.null, .null, .null], [], updI w 52 x1.toNatClampNeg (w.1 52 x1.toNatClampNeg))) rfl h6).trans <|
    runs_ret rfl
theorem p_X9_folds_0FFFT_R {ex : Ex} {x1 : Int32} {x2 : Int32} {w : Wd} (h1 : ¬ x1 < 0) (h2 : (x1 - x1 / 2 * 2) = 0) (h3 : vp_in x1 4) (h4 : (w.1 52 x1.toNatClampNeg) = (-9)) (h5 : ¬ x2 = 1) (h6 : vp_in x1 4) (h7 : vp_in x1 4) : runs (T_X9_folds ex) (0, [.ref 34, .int x1, .int x2], [], w) = some (none, updI w 52 x1.toNatClampNeg (w.1 52 x1.toNatClampNeg)) := 
    (runs_stps (q' := (1, [.ref 34, .int x1, .int x2], [.int x1], w)) 1 rfl).trans <|
    (runs_if_f (a := 64) (b := 4) (L := [.ref 34, .int x1, .int x2]) (st := []) (w := w) rfl h1).trans <|
    (runs_stps (q' := (12, [.ref 34, .int x1, .int x2], [.int (x1 - x1 / 2 * 2), .int x1, .ref 52], w)) 6 rfl).trans <|
    (runs_if_t (a := 15) (b := 49) (L := [.ref 34, .int x1, .int x2]) (st := [.int x1, .ref 52]) (w := w) rfl h2).trans <|
    (runs_stps (q' := (20, [.ref 34, .int x1, .int x2], [.int x1, .ref 52, .int x1, .ref 52], w)) 3 rfl).trans <|
    (runs_ck (q' := (21, [.ref 34, .int x1, .int x2], [.int (w.1 52 x1.toNatClampNeg), .int x1, .ref 52], w)) rfl h3).trans <|
    (runs_stps (q' := (23, [.ref 34, .int x1, .int x2], [.int (-9), .int (w.1 52 x1.toNatClampNeg), .int x1, .ref 52], w)) 1 rfl).trans <|
    (runs_if_t (a := 26) (b := 40) (L := [.ref 34, .int x1, .int x2]) (st := [.int x1, .ref 52]) (w := w) rfl h4).trans <|
    (runs_stps (q' := (28, [.ref 34, .int x1, .int x2], [.int 1, .int x2, .int x1, .ref 52], w)) 2 rfl).trans <|
    (runs_if_f (a := 31) (b := 40) (L := [.ref 34, .int x1, .int x2]) (st := [.int x1, .ref 52]) (w := w) rfl h5).trans <|
    (runs_stps (q' := (45, [.ref 34, .int x1, .null], [.int x1, .ref 52, .int x1, .ref 52], w)) 3 rfl).trans <|
    (runs_ck (q' := (46, [.ref 34, .int x1, .null], [.int (w.1 52 x1.toNatClampNeg), .int x1, .ref 52], w)) rfl h6).trans <|
    (runs_stps (q' := (63, [.ref 34, .int x1, .null], [.int (w.1 52 x1.toNatClampNeg), .int x1, .ref 52], w)) 1 rfl).trans <|
    (runs_ck (q' := (64, [.null, .null, .null], [], updI w 52 x1.toNatClampNeg (w.1 52 x1.toNatClampNeg))) rfl h7).trans <|
    runs_ret rfl
theorem p_X9_folds_0FFFF_R {ex : Ex} {x1 : Int32} {x2 : Int32} {w : Wd} (h1 : ¬ x1 < 0) (h2 : (x1 - x1 / 2 * 2) = 0) (h3 : vp_in x1 4) (h4 : (w.1 52 x1.toNatClampNeg) = (-9)) (h5 : x2 = 1) (h6 : vp_in x1 4) (h7 : vp_in x1 4) : runs (T_X9_folds ex) (0, [.ref 34, .int x1, .int x2], [], w) = some (none, updI w 52 x1.toNatClampNeg (w.1 51 x1.toNatClampNeg)) := 
    (runs_stps (q' := (1, [.ref 34, .int x1, .int x2], [.int x1], w)) 1 rfl).trans <|
    (runs_if_f (a := 64) (b := 4) (L := [.ref 34, .int x1, .int x2]) (st := []) (w := w) rfl h1).trans <|
    (runs_stps (q' := (12, [.ref 34, .int x1, .int x2], [.int (x1 - x1 / 2 * 2), .int x1, .ref 52], w)) 6 rfl).trans <|
    (runs_if_t (a := 15) (b := 49) (L := [.ref 34, .int x1, .int x2]) (st := [.int x1, .ref 52]) (w := w) rfl h2).trans <|
    (runs_stps (q' := (20, [.ref 34, .int x1, .int x2], [.int x1, .ref 52, .int x1, .ref 52], w)) 3 rfl).trans <|
    (runs_ck (q' := (21, [.ref 34, .int x1, .int x2], [.int (w.1 52 x1.toNatClampNeg), .int x1, .ref 52], w)) rfl h3).trans <|
    (runs_stps (q' := (23, [.ref 34, .int x1, .int x2], [.int (-9), .int (w.1 52 x1.toNatClampNeg), .int x1, .ref 52], w)) 1 rfl).trans <|
    (runs_if_t (a := 26) (b := 40) (L := [.ref 34, .int x1, .int x2]) (st := [.int x1, .ref 52]) (w := w) rfl h4).trans <|
    (runs_stps (q' := (28, [.ref 34, .int x1, .int x2], [.int 1, .int x2, .int x1, .ref 52], w)) 2 rfl).trans <|
    (runs_if_t (a := 31) (b := 40) (L := [.ref 34, .int x1, .int x2]) (st := [.int x1, .ref 52]) (w := w) rfl h5).trans <|
    (runs_stps (q' := (36, [.ref 34, .int x1, .int x2], [.int x1, .ref 51, .int x1, .ref 52], w)) 3 rfl).trans <|
    (runs_ck (q' := (37, [.ref 34, .int x1, .int x2], [.int (w.1 51 x1.toNatClampNeg), .int x1, .ref 52], w)) rfl h6).trans <|
    (runs_stps (q' := (63, [.ref 34, .int x1, .int x2], [.int (w.1 51 x1.toNatClampNeg), .int x1, .ref 52], w)) 1 rfl).trans <|
    (runs_ck (q' := (64, [.null, .null, .null], [], updI w 52 x1.toNatClampNeg (w.1 51 x1.toNatClampNeg))) rfl h7).trans <|
    runs_ret rfl
theorem p_X9_played_0T_L38 {ex : Ex} {x1 : Int32} {x2 : Int32} {x3 : Int32} {x4 : Int32} {x5 : Int32} {w : Wd} (h1 : vp_in x1 5) (h2 : x4 ≤ 0) : runs (T_X9_played ex) (0, [.ref 34, .int x1, .int x2, .int x3, .int x4, .int x5, .null, .null, .null, .null, .null, .null], [], w) = runs (T_X9_played ex) (38, [.ref 34, .int x1, .int x2, .int x3, .int x4, .int x5, .int 0, .int 0, .null, .null, .null, .null], [], updI w 50 0 (w.1 40 x1.toNatClampNeg)) := 
    (runs_stps (q' := (10, [.ref 34, .int x1, .int x2, .int x3, .int x4, .int x5, .null, .null, .null, .null, .null, .null], [.int x1, .ref 40, .int 0, .ref 50], w)) 6 rfl).trans <|
    (runs_ck (q' := (11, [.ref 34, .int x1, .int x2, .int x3, .int x4, .int x5, .null, .null, .null, .null, .null, .null], [.int (w.1 40 x1.toNatClampNeg), .int 0, .ref 50], w)) rfl h1).trans <|
    (runs_stps (q' := (20, [.ref 34, .int x1, .int x2, .int x3, .int x4, .int x5, .int 0, .int 0, .null, .null, .null, .null], [.int x4], updI w 50 0 (w.1 40 x1.toNatClampNeg))) 6 rfl).trans <|
    (runs_if_t (a := 38) (b := 23) (L := [.ref 34, .int x1, .int x2, .int x3, .int x4, .int x5, .int 0, .int 0, .null, .null, .null, .null]) (st := []) (w := updI w 50 0 (w.1 40 x1.toNatClampNeg)) rfl h2).trans <|
    rfl
theorem p_X9_played_0F_L38 {ex : Ex} {x1 : Int32} {x2 : Int32} {x3 : Int32} {x4 : Int32} {x5 : Int32} {w : Wd} (h1 : vp_in x1 5) (h2 : ¬ x4 ≤ 0) : runs (T_X9_played ex) (0, [.ref 34, .int x1, .int x2, .int x3, .int x4, .int x5, .null, .null, .null, .null, .null, .null], [], w) = runs (T_X9_played ex) (38, [.ref 34, .int x1, .int x2, .int x3, .int x4, .int x5, .int 0, .int 0, .null, .null, .null, .null], [], updI (updI (updI w 50 0 (w.1 40 x1.toNatClampNeg)) 51 0 (-1)) 52 0 (-9)) := 
    (runs_stps (q' := (10, [.ref 34, .int x1, .int x2, .int x3, .int x4, .int x5, .null, .null, .null, .null, .null, .null], [.int x1, .ref 40, .int 0, .ref 50], w)) 6 rfl).trans <|
    (runs_ck (q' := (11, [.ref 34, .int x1, .int x2, .int x3, .int x4, .int x5, .null, .null, .null, .null, .null, .null], [.int (w.1 40 x1.toNatClampNeg), .int 0, .ref 50], w)) rfl h1).trans <|
    (runs_stps (q' := (20, [.ref 34, .int x1, .int x2, .int x3, .int x4, .int x5, .int 0, .int 0, .null, .null, .null, .null], [.int x4], updI w 50 0 (w.1 40 x1.toNatClampNeg))) 6 rfl).trans <|
    (runs_if_f (a := 38) (b := 23) (L := [.ref 34, .int x1, .int x2, .int x3, .int x4, .int x5, .int 0, .int 0, .null, .null, .null, .null]) (st := []) (w := updI w 50 0 (w.1 40 x1.toNatClampNeg)) rfl h2).trans <|
    (runs_stps (q' := (38, [.ref 34, .int x1, .int x2, .int x3, .int x4, .int x5, .int 0, .int 0, .null, .null, .null, .null], [], updI (updI (updI w 50 0 (w.1 40 x1.toNatClampNeg)) 51 0 (-1)) 52 0 (-9))) 10 rfl).trans <|
    rfl
theorem p_X9_played_38TT_R {ex : Ex} {v1 : Value} {x2 : Int32} {x3 : Int32} {x4 : Int32} {x5 : Int32} {x6 : Int32} {x7 : Int32} {v8 : Value} {v9 : Value} {v10 : Value} {v11 : Value} {w : Wd} (h1 : x6 < 0) (h2 : ¬ x4 = 0) : runs (T_X9_played ex) (38, [.ref 34, v1, .int x2, .int x3, .int x4, .int x5, .int x6, .int x7, v8, v9, v10, v11], [], w) = some (some (.int (w.1 52 0)), w) := 
    (runs_stps (q' := (40, [.ref 34, .null, .int x2, .int x3, .int x4, .int x5, .int x6, .int x7, .null, .null, .null, .null], [.int x6], w)) 1 rfl).trans <|
    (runs_if_t (a := 288) (b := 43) (L := [.ref 34, .null, .int x2, .int x3, .int x4, .int x5, .int x6, .int x7, .null, .null, .null, .null]) (st := []) (w := w) rfl h1).trans <|
    (runs_stps (q' := (290, [.ref 34, .null, .null, .null, .int x4, .null, .null, .int x7, .null, .null, .null, .null], [.int x4], w)) 1 rfl).trans <|
    (runs_if_f (a := 293) (b := 308) (L := [.ref 34, .null, .null, .null, .int x4, .null, .null, .int x7, .null, .null, .null, .null]) (st := []) (w := w) rfl h2).trans <|
    (runs_stps (q' := (314, [.ref 34, .null, .null, .null, .null, .null, .null, .null, .null, .null, .null, .null], [.int (w.1 52 0)], w)) 4 rfl).trans <|
    runs_ret rfl
theorem p_X9_played_38TFT_R {ex : Ex} {v1 : Value} {x2 : Int32} {x3 : Int32} {x4 : Int32} {x5 : Int32} {x6 : Int32} {x7 : Int32} {v8 : Value} {v9 : Value} {v10 : Value} {v11 : Value} {w : Wd} (h1 : x6 < 0) (h2 : x4 = 0) (h3 : ¬ x7 = 1) : runs (T_X9_played ex) (38, [.ref 34, v1, .int x2, .int x3, .int x4, .int x5, .int x6, .int x7, v8, v9, v10, v11], [], w) = some (some (.int (-9)), w) := 
    (runs_stps (q' := (40, [.ref 34, .null, .int x2, .int x3, .int x4, .int x5, .int x6, .int x7, .null, .null, .null, .null], [.int x6], w)) 1 rfl).trans <|
    (runs_if_t (a := 288) (b := 43) (L := [.ref 34, .null, .int x2, .int x3, .int x4, .int x5, .int x6, .int x7, .null, .null, .null, .null]) (st := []) (w := w) rfl h1).trans <|
    (runs_stps (q' := (290, [.ref 34, .null, .null, .null, .int x4, .null, .null, .int x7, .null, .null, .null, .null], [.int x4], w)) 1 rfl).trans <|
    (runs_if_t (a := 293) (b := 308) (L := [.ref 34, .null, .null, .null, .int x4, .null, .null, .int x7, .null, .null, .null, .null]) (st := []) (w := w) rfl h2).trans <|
    (runs_stps (q' := (296, [.ref 34, .null, .null, .null, .int x4, .null, .null, .int x7, .null, .null, .null, .null], [.int 1, .int x7], w)) 2 rfl).trans <|
    (runs_if_f (a := 299) (b := 303) (L := [.ref 34, .null, .null, .null, .int x4, .null, .null, .int x7, .null, .null, .null, .null]) (st := []) (w := w) rfl h3).trans <|
    (runs_stps (q' := (314, [.null, .null, .null, .null, .null, .null, .null, .null, .null, .null, .null, .null], [.int (-9)], w)) 2 rfl).trans <|
    runs_ret rfl
theorem p_X9_played_38TFF_R {ex : Ex} {v1 : Value} {x2 : Int32} {x3 : Int32} {x4 : Int32} {x5 : Int32} {x6 : Int32} {x7 : Int32} {v8 : Value} {v9 : Value} {v10 : Value} {v11 : Value} {w : Wd} (h1 : x6 < 0) (h2 : x4 = 0) (h3 : x7 = 1) : runs (T_X9_played ex) (38, [.ref 34, v1, .int x2, .int x3, .int x4, .int x5, .int x6, .int x7, v8, v9, v10, v11], [], w) = some (some (.int 0), w) := 
    (runs_stps (q' := (40, [.ref 34, .null, .int x2, .int x3, .int x4, .int x5, .int x6, .int x7, .null, .null, .null, .null], [.int x6], w)) 1 rfl).trans <|
    (runs_if_t (a := 288) (b := 43) (L := [.ref 34, .null, .int x2, .int x3, .int x4, .int x5, .int x6, .int x7, .null, .null, .null, .null]) (st := []) (w := w) rfl h1).trans <|
    (runs_stps (q' := (290, [.ref 34, .null, .null, .null, .int x4, .null, .null, .int x7, .null, .null, .null, .null], [.int x4], w)) 1 rfl).trans <|
    (runs_if_t (a := 293) (b := 308) (L := [.ref 34, .null, .null, .null, .int x4, .null, .null, .int x7, .null, .null, .null, .null]) (st := []) (w := w) rfl h2).trans <|
    (runs_stps (q' := (296, [.ref 34, .null, .null, .null, .int x4, .null, .null, .int x7, .null, .null, .null, .null], [.int 1, .int x7], w)) 2 rfl).trans <|
    (runs_if_t (a := 299) (b := 303) (L := [.ref 34, .null, .null, .null, .int x4, .null, .null, .int x7, .null, .null, .null, .null]) (st := []) (w := w) rfl h3).trans <|
    (runs_stps (q' := (314, [.ref 34, .null, .null, .null, .int x4, .null, .null, .int x7, .null, .null, .null, .null], [.int 0], w)) 2 rfl).trans <|
    runs_ret rfl
theorem p_X9_played_38FTTTTTT_L38 {ex : Ex} {v1 : Value} {x2 : Int32} {x3 : Int32} {x4 : Int32} {x5 : Int32} {x6 : Int32} {x7 : Int32} {v8 : Value} {v9 : Value} {v10 : Value} {v11 : Value} {r1 : Int32} {w1 : Wd} {w : Wd} (h1 : ¬ x6 < 0) (h2 : ¬ (x6 - x6 / 2 * 2) = 0) (h3 : ¬ x6 = x4) (h4 : ¬ (0 : Int32) = 0) (h5 : (1 : Int32) = 0) (h6 : vp_in x6 4) (h7 : vp_in x6 4) (h8 : vp_in x6 4) (h9 : ¬ ((updI w 51 x6.toNatClampNeg ((w.1 51 x6.toNatClampNeg) + 1)).1 51 x6.toNatClampNeg) = 7) (h10 : vp_in x6 5) (h11 : vp_in x6 4) (h12 : ex 171 [.ref 34, .int (w.1 50 x6.toNatClampNeg), .int ((updI w 51 x6.toNatClampNeg ((w.1 51 x6.toNatClampNeg) + 1)).1 51 x6.toNatClampNeg), .int (1 <<< (x3 &&& 31))] (updI w 51 x6.toNatClampNeg ((w.1 51 x6.toNatClampNeg) + 1)) = some (some (.int r1), w1)) (h13 : r1 = (-9)) : runs (T_X9_played ex) (38, [.ref 34, v1, .int x2, .int x3, .int x4, .int x5, .int x6, .int x7, v8, v9, v10, v11], [], w) = runs (T_X9_played ex) (38, [.ref 34, .null, .int x2, .int x3, .int x4, .int x5, .int x6, .int x7, .null, .null, .null, .null], [], w1) := 
    (runs_stps (q' := (40, [.ref 34, .null, .int x2, .int x3, .int x4, .int x5, .int x6, .int x7, .null, .null, .null, .null], [.int x6], w)) 1 rfl).trans <|
    (runs_if_f (a := 288) (b := 43) (L := [.ref 34, .null, .int x2, .int x3, .int x4, .int x5, .int x6, .int x7, .null, .null, .null, .null]) (st := []) (w := w) rfl h1).trans <|
    (runs_stps (q' := (47, [.ref 34, .null, .int x2, .int x3, .int x4, .int x5, .int x6, .int x7, .null, .null, .null, .null], [.int (x6 - x6 / 2 * 2)], w)) 3 rfl).trans <|
    (runs_if_f (a := 50) (b := 54) (L := [.ref 34, .null, .int x2, .int x3, .int x4, .int x5, .int x6, .int x7, .null, .null, .null, .null]) (st := []) (w := w) rfl h2).trans <|
    (runs_stps (q' := (61, [.ref 34, .null, .int x2, .int x3, .int x4, .int x5, .int x6, .int x7, .int x3, .null, .null, .null], [.int x4, .int x6], w)) 4 rfl).trans <|
    (runs_if_f (a := 64) (b := 68) (L := [.ref 34, .null, .int x2, .int x3, .int x4, .int x5, .int x6, .int x7, .int x3, .null, .null, .null]) (st := []) (w := w) rfl h3).trans <|
    (runs_stps (q' := (73, [.ref 34, .null, .int x2, .int x3, .int x4, .int x5, .int x6, .int x7, .int x3, .int 0, .null, .null], [.int 0], w)) 3 rfl).trans <|
    (runs_if_f (a := 76) (b := 88) (L := [.ref 34, .null, .int x2, .int x3, .int x4, .int x5, .int x6, .int x7, .int x3, .int 0, .null, .null]) (st := []) (w := w) rfl h4).trans <|
    (runs_stps (q' := (97, [.ref 34, .null, .int x2, .int x3, .int x4, .int x5, .int x6, .int x7, .int x3, .int 0, .int 1, .null], [.int 1], w)) 4 rfl).trans <|
    (runs_if_t (a := 174) (b := 100) (L := [.ref 34, .null, .int x2, .int x3, .int x4, .int x5, .int x6, .int x7, .int x3, .int 0, .int 1, .null]) (st := []) (w := w) rfl h5).trans <|
    (runs_stps (q' := (181, [.ref 34, .null, .int x2, .int x3, .int x4, .int x5, .int x6, .int x7, .int x3, .null, .null, .null], [.int x6, .ref 51, .int x6, .ref 51], w)) 4 rfl).trans <|
    (runs_ck (q' := (182, [.ref 34, .null, .int x2, .int x3, .int x4, .int x5, .int x6, .int x7, .int x3, .null, .null, .null], [.int (w.1 51 x6.toNatClampNeg), .int x6, .ref 51], w)) rfl h6).trans <|
    (runs_stps (q' := (184, [.ref 34, .null, .int x2, .int x3, .int x4, .int x5, .int x6, .int x7, .int x3, .null, .null, .null], [.int ((w.1 51 x6.toNatClampNeg) + 1), .int x6, .ref 51], w)) 2 rfl).trans <|
    (runs_ck (q' := (185, [.ref 34, .null, .int x2, .int x3, .int x4, .int x5, .int x6, .int x7, .int x3, .null, .null, .null], [], updI w 51 x6.toNatClampNeg ((w.1 51 x6.toNatClampNeg) + 1))) rfl h7).trans <|
    (runs_stps (q' := (191, [.ref 34, .null, .int x2, .int x3, .int x4, .int x5, .int x6, .int x7, .int x3, .null, .null, .null], [.int x6, .ref 51], updI w 51 x6.toNatClampNeg ((w.1 51 x6.toNatClampNeg) + 1))) 3 rfl).trans <|
    (runs_ck (q' := (192, [.ref 34, .null, .int x2, .int x3, .int x4, .int x5, .int x6, .int x7, .int x3, .null, .null, .null], [.int ((updI w 51 x6.toNatClampNeg ((w.1 51 x6.toNatClampNeg) + 1)).1 51 x6.toNatClampNeg)], updI w 51 x6.toNatClampNeg ((w.1 51 x6.toNatClampNeg) + 1))) rfl h8).trans <|
    (runs_stps (q' := (194, [.ref 34, .null, .int x2, .int x3, .int x4, .int x5, .int x6, .int x7, .int x3, .null, .null, .null], [.int 7, .int ((updI w 51 x6.toNatClampNeg ((w.1 51 x6.toNatClampNeg) + 1)).1 51 x6.toNatClampNeg)], updI w 51 x6.toNatClampNeg ((w.1 51 x6.toNatClampNeg) + 1))) 1 rfl).trans <|
    (runs_if_f (a := 197) (b := 207) (L := [.ref 34, .null, .int x2, .int x3, .int x4, .int x5, .int x6, .int x7, .int x3, .null, .null, .null]) (st := []) (w := updI w 51 x6.toNatClampNeg ((w.1 51 x6.toNatClampNeg) + 1)) rfl h9).trans <|
    (runs_stps (q' := (214, [.ref 34, .null, .int x2, .int x3, .int x4, .int x5, .int x6, .int x7, .int x3, .null, .null, .null], [.int x6, .ref 50, .ref 34], updI w 51 x6.toNatClampNeg ((w.1 51 x6.toNatClampNeg) + 1))) 4 rfl).trans <|
    (runs_ck (q' := (215, [.ref 34, .null, .int x2, .int x3, .int x4, .int x5, .int x6, .int x7, .int x3, .null, .null, .null], [.int (w.1 50 x6.toNatClampNeg), .ref 34], updI w 51 x6.toNatClampNeg ((w.1 51 x6.toNatClampNeg) + 1))) rfl h10).trans <|
    (runs_stps (q' := (221, [.ref 34, .null, .int x2, .int x3, .int x4, .int x5, .int x6, .int x7, .int x3, .null, .null, .null], [.int x6, .ref 51, .int (w.1 50 x6.toNatClampNeg), .ref 34], updI w 51 x6.toNatClampNeg ((w.1 51 x6.toNatClampNeg) + 1))) 3 rfl).trans <|
    (runs_ck (q' := (222, [.ref 34, .null, .int x2, .int x3, .int x4, .int x5, .int x6, .int x7, .int x3, .null, .null, .null], [.int ((updI w 51 x6.toNatClampNeg ((w.1 51 x6.toNatClampNeg) + 1)).1 51 x6.toNatClampNeg), .int (w.1 50 x6.toNatClampNeg), .ref 34], updI w 51 x6.toNatClampNeg ((w.1 51 x6.toNatClampNeg) + 1))) rfl h11).trans <|
    (runs_stps (q' := (226, [.ref 34, .null, .int x2, .int x3, .int x4, .int x5, .int x6, .int x7, .int x3, .null, .null, .null], [.int (1 <<< (x3 &&& 31)), .int ((updI w 51 x6.toNatClampNeg ((w.1 51 x6.toNatClampNeg) + 1)).1 51 x6.toNatClampNeg), .int (w.1 50 x6.toNatClampNeg), .ref 34], updI w 51 x6.toNatClampNeg ((w.1 51 x6.toNatClampNeg) + 1))) 3 rfl).trans <|
    (runs_callV (rv := some (.int r1)) (w' := w1) rfl rfl rfl rfl h12).trans <|
    (runs_stps (q' := (235, [.ref 34, .null, .int x2, .int x3, .int x4, .int x5, .int x6, .int x7, .null, .null, .null, .int r1], [.int (-9), .int r1], w1)) 3 rfl).trans <|
    (runs_if_t (a := 285) (b := 238) (L := [.ref 34, .null, .int x2, .int x3, .int x4, .int x5, .int x6, .int x7, .null, .null, .null, .int r1]) (st := []) (w := w1) rfl h13).trans <|
    (runs_stps (q' := (38, [.ref 34, .null, .int x2, .int x3, .int x4, .int x5, .int x6, .int x7, .null, .null, .null, .null], [], w1)) 1 rfl).trans <|
    rfl
theorem p_X9_played_38FTTTTTFT_L38 {ex : Ex} {v1 : Value} {x2 : Int32} {x3 : Int32} {x4 : Int32} {x5 : Int32} {x6 : Int32} {x7 : Int32} {v8 : Value} {v9 : Value} {v10 : Value} {v11 : Value} {r1 : Int32} {w1 : Wd} {w : Wd} (h1 : ¬ x6 < 0) (h2 : ¬ (x6 - x6 / 2 * 2) = 0) (h3 : ¬ x6 = x4) (h4 : ¬ (0 : Int32) = 0) (h5 : (1 : Int32) = 0) (h6 : vp_in x6 4) (h7 : vp_in x6 4) (h8 : vp_in x6 4) (h9 : ¬ ((updI w 51 x6.toNatClampNeg ((w.1 51 x6.toNatClampNeg) + 1)).1 51 x6.toNatClampNeg) = 7) (h10 : vp_in x6 5) (h11 : vp_in x6 4) (h12 : ex 171 [.ref 34, .int (w.1 50 x6.toNatClampNeg), .int ((updI w 51 x6.toNatClampNeg ((w.1 51 x6.toNatClampNeg) + 1)).1 51 x6.toNatClampNeg), .int (1 <<< (x3 &&& 31))] (updI w 51 x6.toNatClampNeg ((w.1 51 x6.toNatClampNeg) + 1)) = some (some (.int r1), w1)) (h13 : ¬ r1 = (-9)) (h14 : vp_in (x6 + 1) 5) (h15 : x4 ≤ (x6 + 1)) : runs (T_X9_played ex) (38, [.ref 34, v1, .int x2, .int x3, .int x4, .int x5, .int x6, .int x7, v8, v9, v10, v11], [], w) = runs (T_X9_played ex) (38, [.ref 34, .null, .int x2, .int x3, .int x4, .int x5, .int (x6 + 1), .int x7, .null, .null, .null, .null], [], updI w1 50 ((x6 + 1).toNatClampNeg) r1) := 
    (runs_stps (q' := (40, [.ref 34, .null, .int x2, .int x3, .int x4, .int x5, .int x6, .int x7, .null, .null, .null, .null], [.int x6], w)) 1 rfl).trans <|
    (runs_if_f (a := 288) (b := 43) (L := [.ref 34, .null, .int x2, .int x3, .int x4, .int x5, .int x6, .int x7, .null, .null, .null, .null]) (st := []) (w := w) rfl h1).trans <|
    (runs_stps (q' := (47, [.ref 34, .null, .int x2, .int x3, .int x4, .int x5, .int x6, .int x7, .null, .null, .null, .null], [.int (x6 - x6 / 2 * 2)], w)) 3 rfl).trans <|
    (runs_if_f (a := 50) (b := 54) (L := [.ref 34, .null, .int x2, .int x3, .int x4, .int x5, .int x6, .int x7, .null, .null, .null, .null]) (st := []) (w := w) rfl h2).trans <|
    (runs_stps (q' := (61, [.ref 34, .null, .int x2, .int x3, .int x4, .int x5, .int x6, .int x7, .int x3, .null, .null, .null], [.int x4, .int x6], w)) 4 rfl).trans <|
    (runs_if_f (a := 64) (b := 68) (L := [.ref 34, .null, .int x2, .int x3, .int x4, .int x5, .int x6, .int x7, .int x3, .null, .null, .null]) (st := []) (w := w) rfl h3).trans <|
    (runs_stps (q' := (73, [.ref 34, .null, .int x2, .int x3, .int x4, .int x5, .int x6, .int x7, .int x3, .int 0, .null, .null], [.int 0], w)) 3 rfl).trans <|
    (runs_if_f (a := 76) (b := 88) (L := [.ref 34, .null, .int x2, .int x3, .int x4, .int x5, .int x6, .int x7, .int x3, .int 0, .null, .null]) (st := []) (w := w) rfl h4).trans <|
    (runs_stps (q' := (97, [.ref 34, .null, .int x2, .int x3, .int x4, .int x5, .int x6, .int x7, .int x3, .int 0, .int 1, .null], [.int 1], w)) 4 rfl).trans <|
    (runs_if_t (a := 174) (b := 100) (L := [.ref 34, .null, .int x2, .int x3, .int x4, .int x5, .int x6, .int x7, .int x3, .int 0, .int 1, .null]) (st := []) (w := w) rfl h5).trans <|
    (runs_stps (q' := (181, [.ref 34, .null, .int x2, .int x3, .int x4, .int x5, .int x6, .int x7, .int x3, .null, .null, .null], [.int x6, .ref 51, .int x6, .ref 51], w)) 4 rfl).trans <|
    (runs_ck (q' := (182, [.ref 34, .null, .int x2, .int x3, .int x4, .int x5, .int x6, .int x7, .int x3, .null, .null, .null], [.int (w.1 51 x6.toNatClampNeg), .int x6, .ref 51], w)) rfl h6).trans <|
    (runs_stps (q' := (184, [.ref 34, .null, .int x2, .int x3, .int x4, .int x5, .int x6, .int x7, .int x3, .null, .null, .null], [.int ((w.1 51 x6.toNatClampNeg) + 1), .int x6, .ref 51], w)) 2 rfl).trans <|
    (runs_ck (q' := (185, [.ref 34, .null, .int x2, .int x3, .int x4, .int x5, .int x6, .int x7, .int x3, .null, .null, .null], [], updI w 51 x6.toNatClampNeg ((w.1 51 x6.toNatClampNeg) + 1))) rfl h7).trans <|
    (runs_stps (q' := (191, [.ref 34, .null, .int x2, .int x3, .int x4, .int x5, .int x6, .int x7, .int x3, .null, .null, .null], [.int x6, .ref 51], updI w 51 x6.toNatClampNeg ((w.1 51 x6.toNatClampNeg) + 1))) 3 rfl).trans <|
    (runs_ck (q' := (192, [.ref 34, .null, .int x2, .int x3, .int x4, .int x5, .int x6, .int x7, .int x3, .null, .null, .null], [.int ((updI w 51 x6.toNatClampNeg ((w.1 51 x6.toNatClampNeg) + 1)).1 51 x6.toNatClampNeg)], updI w 51 x6.toNatClampNeg ((w.1 51 x6.toNatClampNeg) + 1))) rfl h8).trans <|
    (runs_stps (q' := (194, [.ref 34, .null, .int x2, .int x3, .int x4, .int x5, .int x6, .int x7, .int x3, .null, .null, .null], [.int 7, .int ((updI w 51 x6.toNatClampNeg ((w.1 51 x6.toNatClampNeg) + 1)).1 51 x6.toNatClampNeg)], updI w 51 x6.toNatClampNeg ((w.1 51 x6.toNatClampNeg) + 1))) 1 rfl).trans <|
    (runs_if_f (a := 197) (b := 207) (L := [.ref 34, .null, .int x2, .int x3, .int x4, .int x5, .int x6, .int x7, .int x3, .null, .null, .null]) (st := []) (w := updI w 51 x6.toNatClampNeg ((w.1 51 x6.toNatClampNeg) + 1)) rfl h9).trans <|
    (runs_stps (q' := (214, [.ref 34, .null, .int x2, .int x3, .int x4, .int x5, .int x6, .int x7, .int x3, .null, .null, .null], [.int x6, .ref 50, .ref 34], updI w 51 x6.toNatClampNeg ((w.1 51 x6.toNatClampNeg) + 1))) 4 rfl).trans <|
    (runs_ck (q' := (215, [.ref 34, .null, .int x2, .int x3, .int x4, .int x5, .int x6, .int x7, .int x3, .null, .null, .null], [.int (w.1 50 x6.toNatClampNeg), .ref 34], updI w 51 x6.toNatClampNeg ((w.1 51 x6.toNatClampNeg) + 1))) rfl h10).trans <|
    (runs_stps (q' := (221, [.ref 34, .null, .int x2, .int x3, .int x4, .int x5, .int x6, .int x7, .int x3, .null, .null, .null], [.int x6, .ref 51, .int (w.1 50 x6.toNatClampNeg), .ref 34], updI w 51 x6.toNatClampNeg ((w.1 51 x6.toNatClampNeg) + 1))) 3 rfl).trans <|
    (runs_ck (q' := (222, [.ref 34, .null, .int x2, .int x3, .int x4, .int x5, .int x6, .int x7, .int x3, .null, .null, .null], [.int ((updI w 51 x6.toNatClampNeg ((w.1 51 x6.toNatClampNeg) + 1)).1 51 x6.toNatClampNeg), .int (w.1 50 x6.toNatClampNeg), .ref 34], updI w 51 x6.toNatClampNeg ((w.1 51 x6.toNatClampNeg) + 1))) rfl h11).trans <|
    (runs_stps (q' := (226, [.ref 34, .null, .int x2, .int x3, .int x4, .int x5, .int x6, .int x7, .int x3, .null, .null, .null], [.int (1 <<< (x3 &&& 31)), .int ((updI w 51 x6.toNatClampNeg ((w.1 51 x6.toNatClampNeg) + 1)).1 51 x6.toNatClampNeg), .int (w.1 50 x6.toNatClampNeg), .ref 34], updI w 51 x6.toNatClampNeg ((w.1 51 x6.toNatClampNeg) + 1))) 3 rfl).trans <|
    (runs_callV (rv := some (.int r1)) (w' := w1) rfl rfl rfl rfl h12).trans <|
    (runs_stps (q' := (235, [.ref 34, .null, .int x2, .int x3, .int x4, .int x5, .int x6, .int x7, .null, .null, .null, .int r1], [.int (-9), .int r1], w1)) 3 rfl).trans <|
    (runs_if_f (a := 285) (b := 238) (L := [.ref 34, .null, .int x2, .int x3, .int x4, .int x5, .int x6, .int x7, .null, .null, .null, .int r1]) (st := []) (w := w1) rfl h13).trans <|
    (runs_stps (q' := (249, [.ref 34, .null, .int x2, .int x3, .int x4, .int x5, .int (x6 + 1), .int x7, .null, .null, .null, .int r1], [.int r1, .int (x6 + 1), .ref 50], w1)) 5 rfl).trans <|
    (runs_ck (q' := (250, [.ref 34, .null, .int x2, .int x3, .int x4, .int x5, .int (x6 + 1), .int x7, .null, .null, .null, .int r1], [], updI w1 50 ((x6 + 1).toNatClampNeg) r1)) rfl h14).trans <|
    (runs_stps (q' := (254, [.ref 34, .null, .int x2, .int x3, .int x4, .int x5, .int (x6 + 1), .int x7, .null, .null, .null, .int r1], [.int x4, .int (x6 + 1)], updI w1 50 ((x6 + 1).toNatClampNeg) r1)) 2 rfl).trans <|
    (runs_if_t (a := 285) (b := 257) (L := [.ref 34, .null, .int x2, .int x3, .int x4, .int x5, .int (x6 + 1), .int x7, .null, .null, .null, .int r1]) (st := []) (w := updI w1 50 ((x6 + 1).toNatClampNeg) r1) rfl h15).trans <|
    (runs_stps (q' := (38, [.ref 34, .null, .int x2, .int x3, .int x4, .int x5, .int (x6 + 1), .int x7, .null, .null, .null, .null], [], updI w1 50 ((x6 + 1).toNatClampNeg) r1)) 1 rfl).trans <|
    rfl
theorem p_X9_played_38FTTTTTFFT_L38 {ex : Ex} {v1 : Value} {x2 : Int32} {x3 : Int32} {x4 : Int32} {x5 : Int32} {x6 : Int32} {x7 : Int32} {v8 : Value} {v9 : Value} {v10 : Value} {v11 : Value} {r1 : Int32} {w1 : Wd} {w : Wd} (h1 : ¬ x6 < 0) (h2 : ¬ (x6 - x6 / 2 * 2) = 0) (h3 : ¬ x6 = x4) (h4 : ¬ (0 : Int32) = 0) (h5 : (1 : Int32) = 0) (h6 : vp_in x6 4) (h7 : vp_in x6 4) (h8 : vp_in x6 4) (h9 : ¬ ((updI w 51 x6.toNatClampNeg ((w.1 51 x6.toNatClampNeg) + 1)).1 51 x6.toNatClampNeg) = 7) (h10 : vp_in x6 5) (h11 : vp_in x6 4) (h12 : ex 171 [.ref 34, .int (w.1 50 x6.toNatClampNeg), .int ((updI w 51 x6.toNatClampNeg ((w.1 51 x6.toNatClampNeg) + 1)).1 51 x6.toNatClampNeg), .int (1 <<< (x3 &&& 31))] (updI w 51 x6.toNatClampNeg ((w.1 51 x6.toNatClampNeg) + 1)) = some (some (.int r1), w1)) (h13 : ¬ r1 = (-9)) (h14 : vp_in (x6 + 1) 5) (h15 : ¬ x4 ≤ (x6 + 1)) (h16 : vp_in (x6 + 1) 4) (h17 : ¬ ((x6 + 1) - (x6 + 1) / 2 * 2) = 0) (h18 : vp_in (x6 + 1) 4) : runs (T_X9_played ex) (38, [.ref 34, v1, .int x2, .int x3, .int x4, .int x5, .int x6, .int x7, v8, v9, v10, v11], [], w) = runs (T_X9_played ex) (38, [.ref 34, .null, .int x2, .int x3, .int x4, .int x5, .int (x6 + 1), .int x7, .null, .null, .null, .null], [], updI (updI (updI w1 50 ((x6 + 1).toNatClampNeg) r1) 51 ((x6 + 1).toNatClampNeg) (-1)) 52 ((x6 + 1).toNatClampNeg) 1) := 
    (runs_stps (q' := (40, [.ref 34, .null, .int x2, .int x3, .int x4, .int x5, .int x6, .int x7, .null, .null, .null, .null], [.int x6], w)) 1 rfl).trans <|
    (runs_if_f (a := 288) (b := 43) (L := [.ref 34, .null, .int x2, .int x3, .int x4, .int x5, .int x6, .int x7, .null, .null, .null, .null]) (st := []) (w := w) rfl h1).trans <|
    (runs_stps (q' := (47, [.ref 34, .null, .int x2, .int x3, .int x4, .int x5, .int x6, .int x7, .null, .null, .null, .null], [.int (x6 - x6 / 2 * 2)], w)) 3 rfl).trans <|
    (runs_if_f (a := 50) (b := 54) (L := [.ref 34, .null, .int x2, .int x3, .int x4, .int x5, .int x6, .int x7, .null, .null, .null, .null]) (st := []) (w := w) rfl h2).trans <|
    (runs_stps (q' := (61, [.ref 34, .null, .int x2, .int x3, .int x4, .int x5, .int x6, .int x7, .int x3, .null, .null, .null], [.int x4, .int x6], w)) 4 rfl).trans <|
    (runs_if_f (a := 64) (b := 68) (L := [.ref 34, .null, .int x2, .int x3, .int x4, .int x5, .int x6, .int x7, .int x3, .null, .null, .null]) (st := []) (w := w) rfl h3).trans <|
    (runs_stps (q' := (73, [.ref 34, .null, .int x2, .int x3, .int x4, .int x5, .int x6, .int x7, .int x3, .int 0, .null, .null], [.int 0], w)) 3 rfl).trans <|
    (runs_if_f (a := 76) (b := 88) (L := [.ref 34, .null, .int x2, .int x3, .int x4, .int x5, .int x6, .int x7, .int x3, .int 0, .null, .null]) (st := []) (w := w) rfl h4).trans <|
    (runs_stps (q' := (97, [.ref 34, .null, .int x2, .int x3, .int x4, .int x5, .int x6, .int x7, .int x3, .int 0, .int 1, .null], [.int 1], w)) 4 rfl).trans <|
    (runs_if_t (a := 174) (b := 100) (L := [.ref 34, .null, .int x2, .int x3, .int x4, .int x5, .int x6, .int x7, .int x3, .int 0, .int 1, .null]) (st := []) (w := w) rfl h5).trans <|
    (runs_stps (q' := (181, [.ref 34, .null, .int x2, .int x3, .int x4, .int x5, .int x6, .int x7, .int x3, .null, .null, .null], [.int x6, .ref 51, .int x6, .ref 51], w)) 4 rfl).trans <|
    (runs_ck (q' := (182, [.ref 34, .null, .int x2, .int x3, .int x4, .int x5, .int x6, .int x7, .int x3, .null, .null, .null], [.int (w.1 51 x6.toNatClampNeg), .int x6, .ref 51], w)) rfl h6).trans <|
    (runs_stps (q' := (184, [.ref 34, .null, .int x2, .int x3, .int x4, .int x5, .int x6, .int x7, .int x3, .null, .null, .null], [.int ((w.1 51 x6.toNatClampNeg) + 1), .int x6, .ref 51], w)) 2 rfl).trans <|
    (runs_ck (q' := (185, [.ref 34, .null, .int x2, .int x3, .int x4, .int x5, .int x6, .int x7, .int x3, .null, .null, .null], [], updI w 51 x6.toNatClampNeg ((w.1 51 x6.toNatClampNeg) + 1))) rfl h7).trans <|
    (runs_stps (q' := (191, [.ref 34, .null, .int x2, .int x3, .int x4, .int x5, .int x6, .int x7, .int x3, .null, .null, .null], [.int x6, .ref 51], updI w 51 x6.toNatClampNeg ((w.1 51 x6.toNatClampNeg) + 1))) 3 rfl).trans <|
    (runs_ck (q' := (192, [.ref 34, .null, .int x2, .int x3, .int x4, .int x5, .int x6, .int x7, .int x3, .null, .null, .null], [.int ((updI w 51 x6.toNatClampNeg ((w.1 51 x6.toNatClampNeg) + 1)).1 51 x6.toNatClampNeg)], updI w 51 x6.toNatClampNeg ((w.1 51 x6.toNatClampNeg) + 1))) rfl h8).trans <|
    (runs_stps (q' := (194, [.ref 34, .null, .int x2, .int x3, .int x4, .int x5, .int x6, .int x7, .int x3, .null, .null, .null], [.int 7, .int ((updI w 51 x6.toNatClampNeg ((w.1 51 x6.toNatClampNeg) + 1)).1 51 x6.toNatClampNeg)], updI w 51 x6.toNatClampNeg ((w.1 51 x6.toNatClampNeg) + 1))) 1 rfl).trans <|
    (runs_if_f (a := 197) (b := 207) (L := [.ref 34, .null, .int x2, .int x3, .int x4, .int x5, .int x6, .int x7, .int x3, .null, .null, .null]) (st := []) (w := updI w 51 x6.toNatClampNeg ((w.1 51 x6.toNatClampNeg) + 1)) rfl h9).trans <|
    (runs_stps (q' := (214, [.ref 34, .null, .int x2, .int x3, .int x4, .int x5, .int x6, .int x7, .int x3, .null, .null, .null], [.int x6, .ref 50, .ref 34], updI w 51 x6.toNatClampNeg ((w.1 51 x6.toNatClampNeg) + 1))) 4 rfl).trans <|
    (runs_ck (q' := (215, [.ref 34, .null, .int x2, .int x3, .int x4, .int x5, .int x6, .int x7, .int x3, .null, .null, .null], [.int (w.1 50 x6.toNatClampNeg), .ref 34], updI w 51 x6.toNatClampNeg ((w.1 51 x6.toNatClampNeg) + 1))) rfl h10).trans <|
    (runs_stps (q' := (221, [.ref 34, .null, .int x2, .int x3, .int x4, .int x5, .int x6, .int x7, .int x3, .null, .null, .null], [.int x6, .ref 51, .int (w.1 50 x6.toNatClampNeg), .ref 34], updI w 51 x6.toNatClampNeg ((w.1 51 x6.toNatClampNeg) + 1))) 3 rfl).trans <|
    (runs_ck (q' := (222, [.ref 34, .null, .int x2, .int x3, .int x4, .int x5, .int x6, .int x7, .int x3, .null, .null, .null], [.int ((updI w 51 x6.toNatClampNeg ((w.1 51 x6.toNatClampNeg) + 1)).1 51 x6.toNatClampNeg), .int (w.1 50 x6.toNatClampNeg), .ref 34], updI w 51 x6.toNatClampNeg ((w.1 51 x6.toNatClampNeg) + 1))) rfl h11).trans <|
    (runs_stps (q' := (226, [.ref 34, .null, .int x2, .int x3, .int x4, .int x5, .int x6, .int x7, .int x3, .null, .null, .null], [.int (1 <<< (x3 &&& 31)), .int ((updI w 51 x6.toNatClampNeg ((w.1 51 x6.toNatClampNeg) + 1)).1 51 x6.toNatClampNeg), .int (w.1 50 x6.toNatClampNeg), .ref 34], updI w 51 x6.toNatClampNeg ((w.1 51 x6.toNatClampNeg) + 1))) 3 rfl).trans <|
    (runs_callV (rv := some (.int r1)) (w' := w1) rfl rfl rfl rfl h12).trans <|
    (runs_stps (q' := (235, [.ref 34, .null, .int x2, .int x3, .int x4, .int x5, .int x6, .int x7, .null, .null, .null, .int r1], [.int (-9), .int r1], w1)) 3 rfl).trans <|
    (runs_if_f (a := 285) (b := 238) (L := [.ref 34, .null, .int x2, .int x3, .int x4, .int x5, .int x6, .int x7, .null, .null, .null, .int r1]) (st := []) (w := w1) rfl h13).trans <|
    (runs_stps (q' := (249, [.ref 34, .null, .int x2, .int x3, .int x4, .int x5, .int (x6 + 1), .int x7, .null, .null, .null, .int r1], [.int r1, .int (x6 + 1), .ref 50], w1)) 5 rfl).trans <|
    (runs_ck (q' := (250, [.ref 34, .null, .int x2, .int x3, .int x4, .int x5, .int (x6 + 1), .int x7, .null, .null, .null, .int r1], [], updI w1 50 ((x6 + 1).toNatClampNeg) r1)) rfl h14).trans <|
    (runs_stps (q' := (254, [.ref 34, .null, .int x2, .int x3, .int x4, .int x5, .int (x6 + 1), .int x7, .null, .null, .null, .int r1], [.int x4, .int (x6 + 1)], updI w1 50 ((x6 + 1).toNatClampNeg) r1)) 2 rfl).trans <|
    (runs_if_f (a := 285) (b := 257) (L := [.ref 34, .null, .int x2, .int x3, .int x4, .int x5, .int (x6 + 1), .int x7, .null, .null, .null, .int r1]) (st := []) (w := updI w1 50 ((x6 + 1).toNatClampNeg) r1) rfl h15).trans <|
    (runs_stps (q' := (264, [.ref 34, .null, .int x2, .int x3, .int x4, .int x5, .int (x6 + 1), .int x7, .null, .null, .null, .int r1], [.int (-1), .int (x6 + 1), .ref 51], updI w1 50 ((x6 + 1).toNatClampNeg) r1)) 4 rfl).trans <|
    (runs_ck (q' := (265, [.ref 34, .null, .int x2, .int x3, .int x4, .int x5, .int (x6 + 1), .int x7, .null, .null, .null, .int r1], [], updI (updI w1 50 ((x6 + 1).toNatClampNeg) r1) 51 ((x6 + 1).toNatClampNeg) (-1))) rfl h16).trans <|
    (runs_stps (q' := (275, [.ref 34, .null, .int x2, .int x3, .int x4, .int x5, .int (x6 + 1), .int x7, .null, .null, .null, .int r1], [.int ((x6 + 1) - (x6 + 1) / 2 * 2), .int (x6 + 1), .ref 52], updI (updI w1 50 ((x6 + 1).toNatClampNeg) r1) 51 ((x6 + 1).toNatClampNeg) (-1))) 6 rfl).trans <|
    (runs_if_f (a := 278) (b := 283) (L := [.ref 34, .null, .int x2, .int x3, .int x4, .int x5, .int (x6 + 1), .int x7, .null, .null, .null, .int r1]) (st := [.int (x6 + 1), .ref 52]) (w := updI (updI w1 50 ((x6 + 1).toNatClampNeg) r1) 51 ((x6 + 1).toNatClampNeg) (-1)) rfl h17).trans <|
    (runs_stps (q' := (284, [.ref 34, .null, .int x2, .int x3, .int x4, .int x5, .int (x6 + 1), .int x7, .null, .null, .null, .null], [.int 1, .int (x6 + 1), .ref 52], updI (updI w1 50 ((x6 + 1).toNatClampNeg) r1) 51 ((x6 + 1).toNatClampNeg) (-1))) 1 rfl).trans <|
    (runs_ck (q' := (285, [.ref 34, .null, .int x2, .int x3, .int x4, .int x5, .int (x6 + 1), .int x7, .null, .null, .null, .null], [], updI (updI (updI w1 50 ((x6 + 1).toNatClampNeg) r1) 51 ((x6 + 1).toNatClampNeg) (-1)) 52 ((x6 + 1).toNatClampNeg) 1)) rfl h18).trans <|
    (runs_stps (q' := (38, [.ref 34, .null, .int x2, .int x3, .int x4, .int x5, .int (x6 + 1), .int x7, .null, .null, .null, .null], [], updI (updI (updI w1 50 ((x6 + 1).toNatClampNeg) r1) 51 ((x6 + 1).toNatClampNeg) (-1)) 52 ((x6 + 1).toNatClampNeg) 1)) 1 rfl).trans <|
    rfl
theorem p_X9_played_38FTTTTTFFF_L38 {ex : Ex} {v1 : Value} {x2 : Int32} {x3 : Int32} {x4 : Int32} {x5 : Int32} {x6 : Int32} {x7 : Int32} {v8 : Value} {v9 : Value} {v10 : Value} {v11 : Value} {r1 : Int32} {w1 : Wd} {w : Wd} (h1 : ¬ x6 < 0) (h2 : ¬ (x6 - x6 / 2 * 2) = 0) (h3 : ¬ x6 = x4) (h4 : ¬ (0 : Int32) = 0) (h5 : (1 : Int32) = 0) (h6 : vp_in x6 4) (h7 : vp_in x6 4) (h8 : vp_in x6 4) (h9 : ¬ ((updI w 51 x6.toNatClampNeg ((w.1 51 x6.toNatClampNeg) + 1)).1 51 x6.toNatClampNeg) = 7) (h10 : vp_in x6 5) (h11 : vp_in x6 4) (h12 : ex 171 [.ref 34, .int (w.1 50 x6.toNatClampNeg), .int ((updI w 51 x6.toNatClampNeg ((w.1 51 x6.toNatClampNeg) + 1)).1 51 x6.toNatClampNeg), .int (1 <<< (x3 &&& 31))] (updI w 51 x6.toNatClampNeg ((w.1 51 x6.toNatClampNeg) + 1)) = some (some (.int r1), w1)) (h13 : ¬ r1 = (-9)) (h14 : vp_in (x6 + 1) 5) (h15 : ¬ x4 ≤ (x6 + 1)) (h16 : vp_in (x6 + 1) 4) (h17 : ((x6 + 1) - (x6 + 1) / 2 * 2) = 0) (h18 : vp_in (x6 + 1) 4) : runs (T_X9_played ex) (38, [.ref 34, v1, .int x2, .int x3, .int x4, .int x5, .int x6, .int x7, v8, v9, v10, v11], [], w) = runs (T_X9_played ex) (38, [.ref 34, .null, .int x2, .int x3, .int x4, .int x5, .int (x6 + 1), .int x7, .null, .null, .null, .null], [], updI (updI (updI w1 50 ((x6 + 1).toNatClampNeg) r1) 51 ((x6 + 1).toNatClampNeg) (-1)) 52 ((x6 + 1).toNatClampNeg) (-9)) := 
    (runs_stps (q' := (40, [.ref 34, .null, .int x2, .int x3, .int x4, .int x5, .int x6, .int x7, .null, .null, .null, .null], [.int x6], w)) 1 rfl).trans <|
    (runs_if_f (a := 288) (b := 43) (L := [.ref 34, .null, .int x2, .int x3, .int x4, .int x5, .int x6, .int x7, .null, .null, .null, .null]) (st := []) (w := w) rfl h1).trans <|
    (runs_stps (q' := (47, [.ref 34, .null, .int x2, .int x3, .int x4, .int x5, .int x6, .int x7, .null, .null, .null, .null], [.int (x6 - x6 / 2 * 2)], w)) 3 rfl).trans <|
    (runs_if_f (a := 50) (b := 54) (L := [.ref 34, .null, .int x2, .int x3, .int x4, .int x5, .int x6, .int x7, .null, .null, .null, .null]) (st := []) (w := w) rfl h2).trans <|
    (runs_stps (q' := (61, [.ref 34, .null, .int x2, .int x3, .int x4, .int x5, .int x6, .int x7, .int x3, .null, .null, .null], [.int x4, .int x6], w)) 4 rfl).trans <|
    (runs_if_f (a := 64) (b := 68) (L := [.ref 34, .null, .int x2, .int x3, .int x4, .int x5, .int x6, .int x7, .int x3, .null, .null, .null]) (st := []) (w := w) rfl h3).trans <|
    (runs_stps (q' := (73, [.ref 34, .null, .int x2, .int x3, .int x4, .int x5, .int x6, .int x7, .int x3, .int 0, .null, .null], [.int 0], w)) 3 rfl).trans <|
    (runs_if_f (a := 76) (b := 88) (L := [.ref 34, .null, .int x2, .int x3, .int x4, .int x5, .int x6, .int x7, .int x3, .int 0, .null, .null]) (st := []) (w := w) rfl h4).trans <|
    (runs_stps (q' := (97, [.ref 34, .null, .int x2, .int x3, .int x4, .int x5, .int x6, .int x7, .int x3, .int 0, .int 1, .null], [.int 1], w)) 4 rfl).trans <|
    (runs_if_t (a := 174) (b := 100) (L := [.ref 34, .null, .int x2, .int x3, .int x4, .int x5, .int x6, .int x7, .int x3, .int 0, .int 1, .null]) (st := []) (w := w) rfl h5).trans <|
    (runs_stps (q' := (181, [.ref 34, .null, .int x2, .int x3, .int x4, .int x5, .int x6, .int x7, .int x3, .null, .null, .null], [.int x6, .ref 51, .int x6, .ref 51], w)) 4 rfl).trans <|
    (runs_ck (q' := (182, [.ref 34, .null, .int x2, .int x3, .int x4, .int x5, .int x6, .int x7, .int x3, .null, .null, .null], [.int (w.1 51 x6.toNatClampNeg), .int x6, .ref 51], w)) rfl h6).trans <|
    (runs_stps (q' := (184, [.ref 34, .null, .int x2, .int x3, .int x4, .int x5, .int x6, .int x7, .int x3, .null, .null, .null], [.int ((w.1 51 x6.toNatClampNeg) + 1), .int x6, .ref 51], w)) 2 rfl).trans <|
    (runs_ck (q' := (185, [.ref 34, .null, .int x2, .int x3, .int x4, .int x5, .int x6, .int x7, .int x3, .null, .null, .null], [], updI w 51 x6.toNatClampNeg ((w.1 51 x6.toNatClampNeg) + 1))) rfl h7).trans <|
    (runs_stps (q' := (191, [.ref 34, .null, .int x2, .int x3, .int x4, .int x5, .int x6, .int x7, .int x3, .null, .null, .null], [.int x6, .ref 51], updI w 51 x6.toNatClampNeg ((w.1 51 x6.toNatClampNeg) + 1))) 3 rfl).trans <|
    (runs_ck (q' := (192, [.ref 34, .null, .int x2, .int x3, .int x4, .int x5, .int x6, .int x7, .int x3, .null, .null, .null], [.int ((updI w 51 x6.toNatClampNeg ((w.1 51 x6.toNatClampNeg) + 1)).1 51 x6.toNatClampNeg)], updI w 51 x6.toNatClampNeg ((w.1 51 x6.toNatClampNeg) + 1))) rfl h8).trans <|
    (runs_stps (q' := (194, [.ref 34, .null, .int x2, .int x3, .int x4, .int x5, .int x6, .int x7, .int x3, .null, .null, .null], [.int 7, .int ((updI w 51 x6.toNatClampNeg ((w.1 51 x6.toNatClampNeg) + 1)).1 51 x6.toNatClampNeg)], updI w 51 x6.toNatClampNeg ((w.1 51 x6.toNatClampNeg) + 1))) 1 rfl).trans <|
    (runs_if_f (a := 197) (b := 207) (L := [.ref 34, .null, .int x2, .int x3, .int x4, .int x5, .int x6, .int x7, .int x3, .null, .null, .null]) (st := []) (w := updI w 51 x6.toNatClampNeg ((w.1 51 x6.toNatClampNeg) + 1)) rfl h9).trans <|
    (runs_stps (q' := (214, [.ref 34, .null, .int x2, .int x3, .int x4, .int x5, .int x6, .int x7, .int x3, .null, .null, .null], [.int x6, .ref 50, .ref 34], updI w 51 x6.toNatClampNeg ((w.1 51 x6.toNatClampNeg) + 1))) 4 rfl).trans <|
    (runs_ck (q' := (215, [.ref 34, .null, .int x2, .int x3, .int x4, .int x5, .int x6, .int x7, .int x3, .null, .null, .null], [.int (w.1 50 x6.toNatClampNeg), .ref 34], updI w 51 x6.toNatClampNeg ((w.1 51 x6.toNatClampNeg) + 1))) rfl h10).trans <|
    (runs_stps (q' := (221, [.ref 34, .null, .int x2, .int x3, .int x4, .int x5, .int x6, .int x7, .int x3, .null, .null, .null], [.int x6, .ref 51, .int (w.1 50 x6.toNatClampNeg), .ref 34], updI w 51 x6.toNatClampNeg ((w.1 51 x6.toNatClampNeg) + 1))) 3 rfl).trans <|
    (runs_ck (q' := (222, [.ref 34, .null, .int x2, .int x3, .int x4, .int x5, .int x6, .int x7, .int x3, .null, .null, .null], [.int ((updI w 51 x6.toNatClampNeg ((w.1 51 x6.toNatClampNeg) + 1)).1 51 x6.toNatClampNeg), .int (w.1 50 x6.toNatClampNeg), .ref 34], updI w 51 x6.toNatClampNeg ((w.1 51 x6.toNatClampNeg) + 1))) rfl h11).trans <|
    (runs_stps (q' := (226, [.ref 34, .null, .int x2, .int x3, .int x4, .int x5, .int x6, .int x7, .int x3, .null, .null, .null], [.int (1 <<< (x3 &&& 31)), .int ((updI w 51 x6.toNatClampNeg ((w.1 51 x6.toNatClampNeg) + 1)).1 51 x6.toNatClampNeg), .int (w.1 50 x6.toNatClampNeg), .ref 34], updI w 51 x6.toNatClampNeg ((w.1 51 x6.toNatClampNeg) + 1))) 3 rfl).trans <|
    (runs_callV (rv := some (.int r1)) (w' := w1) rfl rfl rfl rfl h12).trans <|
    (runs_stps (q' := (235, [.ref 34, .null, .int x2, .int x3, .int x4, .int x5, .int x6, .int x7, .null, .null, .null, .int r1], [.int (-9), .int r1], w1)) 3 rfl).trans <|
    (runs_if_f (a := 285) (b := 238) (L := [.ref 34, .null, .int x2, .int x3, .int x4, .int x5, .int x6, .int x7, .null, .null, .null, .int r1]) (st := []) (w := w1) rfl h13).trans <|
    (runs_stps (q' := (249, [.ref 34, .null, .int x2, .int x3, .int x4, .int x5, .int (x6 + 1), .int x7, .null, .null, .null, .int r1], [.int r1, .int (x6 + 1), .ref 50], w1)) 5 rfl).trans <|
    (runs_ck (q' := (250, [.ref 34, .null, .int x2, .int x3, .int x4, .int x5, .int (x6 + 1), .int x7, .null, .null, .null, .int r1], [], updI w1 50 ((x6 + 1).toNatClampNeg) r1)) rfl h14).trans <|
    (runs_stps (q' := (254, [.ref 34, .null, .int x2, .int x3, .int x4, .int x5, .int (x6 + 1), .int x7, .null, .null, .null, .int r1], [.int x4, .int (x6 + 1)], updI w1 50 ((x6 + 1).toNatClampNeg) r1)) 2 rfl).trans <|
    (runs_if_f (a := 285) (b := 257) (L := [.ref 34, .null, .int x2, .int x3, .int x4, .int x5, .int (x6 + 1), .int x7, .null, .null, .null, .int r1]) (st := []) (w := updI w1 50 ((x6 + 1).toNatClampNeg) r1) rfl h15).trans <|
    (runs_stps (q' := (264, [.ref 34, .null, .int x2, .int x3, .int x4, .int x5, .int (x6 + 1), .int x7, .null, .null, .null, .int r1], [.int (-1), .int (x6 + 1), .ref 51], updI w1 50 ((x6 + 1).toNatClampNeg) r1)) 4 rfl).trans <|
    (runs_ck (q' := (265, [.ref 34, .null, .int x2, .int x3, .int x4, .int x5, .int (x6 + 1), .int x7, .null, .null, .null, .int r1], [], updI (updI w1 50 ((x6 + 1).toNatClampNeg) r1) 51 ((x6 + 1).toNatClampNeg) (-1))) rfl h16).trans <|
    (runs_stps (q' := (275, [.ref 34, .null, .int x2, .int x3, .int x4, .int x5, .int (x6 + 1), .int x7, .null, .null, .null, .int r1], [.int ((x6 + 1) - (x6 + 1) / 2 * 2), .int (x6 + 1), .ref 52], updI (updI w1 50 ((x6 + 1).toNatClampNeg) r1) 51 ((x6 + 1).toNatClampNeg) (-1))) 6 rfl).trans <|
    (runs_if_t (a := 278) (b := 283) (L := [.ref 34, .null, .int x2, .int x3, .int x4, .int x5, .int (x6 + 1), .int x7, .null, .null, .null, .int r1]) (st := [.int (x6 + 1), .ref 52]) (w := updI (updI w1 50 ((x6 + 1).toNatClampNeg) r1) 51 ((x6 + 1).toNatClampNeg) (-1)) rfl h17).trans <|
    (runs_stps (q' := (284, [.ref 34, .null, .int x2, .int x3, .int x4, .int x5, .int (x6 + 1), .int x7, .null, .null, .null, .int r1], [.int (-9), .int (x6 + 1), .ref 52], updI (updI w1 50 ((x6 + 1).toNatClampNeg) r1) 51 ((x6 + 1).toNatClampNeg) (-1))) 2 rfl).trans <|
    (runs_ck (q' := (285, [.ref 34, .null, .int x2, .int x3, .int x4, .int x5, .int (x6 + 1), .int x7, .null, .null, .null, .null], [], updI (updI (updI w1 50 ((x6 + 1).toNatClampNeg) r1) 51 ((x6 + 1).toNatClampNeg) (-1)) 52 ((x6 + 1).toNatClampNeg) (-9))) rfl h18).trans <|
    (runs_stps (q' := (38, [.ref 34, .null, .int x2, .int x3, .int x4, .int x5, .int (x6 + 1), .int x7, .null, .null, .null, .null], [], updI (updI (updI w1 50 ((x6 + 1).toNatClampNeg) r1) 51 ((x6 + 1).toNatClampNeg) (-1)) 52 ((x6 + 1).toNatClampNeg) (-9))) 1 rfl).trans <|
    rfl
theorem p_X9_played_38FTTTTFT_L38 {ex : Ex} {v1 : Value} {x2 : Int32} {x3 : Int32} {x4 : Int32} {x5 : Int32} {x6 : Int32} {x7 : Int32} {v8 : Value} {v9 : Value} {v10 : Value} {v11 : Value} {w : Wd} (h1 : ¬ x6 < 0) (h2 : ¬ (x6 - x6 / 2 * 2) = 0) (h3 : ¬ x6 = x4) (h4 : ¬ (0 : Int32) = 0) (h5 : (1 : Int32) = 0) (h6 : vp_in x6 4) (h7 : vp_in x6 4) (h8 : vp_in x6 4) (h9 : ((updI w 51 x6.toNatClampNeg ((w.1 51 x6.toNatClampNeg) + 1)).1 51 x6.toNatClampNeg) = 7) (h10 : vp_in x6 5) (h11 : (w.1 50 x6.toNatClampNeg) = (-9)) : runs (T_X9_played ex) (38, [.ref 34, v1, .int x2, .int x3, .int x4, .int x5, .int x6, .int x7, v8, v9, v10, v11], [], w) = runs (T_X9_played ex) (38, [.ref 34, .null, .int x2, .int x3, .int x4, .int x5, .int x6, .int x7, .null, .null, .null, .null], [], updI w 51 x6.toNatClampNeg ((w.1 51 x6.toNatClampNeg) + 1)) := 
    (runs_stps (q' := (40, [.ref 34, .null, .int x2, .int x3, .int x4, .int x5, .int x6, .int x7, .null, .null, .null, .null], [.int x6], w)) 1 rfl).trans <|
    (runs_if_f (a := 288) (b := 43) (L := [.ref 34, .null, .int x2, .int x3, .int x4, .int x5, .int x6, .int x7, .null, .null, .null, .null]) (st := []) (w := w) rfl h1).trans <|
    (runs_stps (q' := (47, [.ref 34, .null, .int x2, .int x3, .int x4, .int x5, .int x6, .int x7, .null, .null, .null, .null], [.int (x6 - x6 / 2 * 2)], w)) 3 rfl).trans <|
    (runs_if_f (a := 50) (b := 54) (L := [.ref 34, .null, .int x2, .int x3, .int x4, .int x5, .int x6, .int x7, .null, .null, .null, .null]) (st := []) (w := w) rfl h2).trans <|
    (runs_stps (q' := (61, [.ref 34, .null, .int x2, .int x3, .int x4, .int x5, .int x6, .int x7, .int x3, .null, .null, .null], [.int x4, .int x6], w)) 4 rfl).trans <|
    (runs_if_f (a := 64) (b := 68) (L := [.ref 34, .null, .int x2, .int x3, .int x4, .int x5, .int x6, .int x7, .int x3, .null, .null, .null]) (st := []) (w := w) rfl h3).trans <|
    (runs_stps (q' := (73, [.ref 34, .null, .int x2, .int x3, .int x4, .int x5, .int x6, .int x7, .int x3, .int 0, .null, .null], [.int 0], w)) 3 rfl).trans <|
    (runs_if_f (a := 76) (b := 88) (L := [.ref 34, .null, .int x2, .int x3, .int x4, .int x5, .int x6, .int x7, .int x3, .int 0, .null, .null]) (st := []) (w := w) rfl h4).trans <|
    (runs_stps (q' := (97, [.ref 34, .null, .int x2, .int x3, .int x4, .int x5, .int x6, .int x7, .int x3, .int 0, .int 1, .null], [.int 1], w)) 4 rfl).trans <|
    (runs_if_t (a := 174) (b := 100) (L := [.ref 34, .null, .int x2, .int x3, .int x4, .int x5, .int x6, .int x7, .int x3, .int 0, .int 1, .null]) (st := []) (w := w) rfl h5).trans <|
    (runs_stps (q' := (181, [.ref 34, .null, .int x2, .int x3, .int x4, .int x5, .int x6, .int x7, .int x3, .null, .null, .null], [.int x6, .ref 51, .int x6, .ref 51], w)) 4 rfl).trans <|
    (runs_ck (q' := (182, [.ref 34, .null, .int x2, .int x3, .int x4, .int x5, .int x6, .int x7, .int x3, .null, .null, .null], [.int (w.1 51 x6.toNatClampNeg), .int x6, .ref 51], w)) rfl h6).trans <|
    (runs_stps (q' := (184, [.ref 34, .null, .int x2, .int x3, .int x4, .int x5, .int x6, .int x7, .int x3, .null, .null, .null], [.int ((w.1 51 x6.toNatClampNeg) + 1), .int x6, .ref 51], w)) 2 rfl).trans <|
    (runs_ck (q' := (185, [.ref 34, .null, .int x2, .int x3, .int x4, .int x5, .int x6, .int x7, .int x3, .null, .null, .null], [], updI w 51 x6.toNatClampNeg ((w.1 51 x6.toNatClampNeg) + 1))) rfl h7).trans <|
    (runs_stps (q' := (191, [.ref 34, .null, .int x2, .int x3, .int x4, .int x5, .int x6, .int x7, .int x3, .null, .null, .null], [.int x6, .ref 51], updI w 51 x6.toNatClampNeg ((w.1 51 x6.toNatClampNeg) + 1))) 3 rfl).trans <|
    (runs_ck (q' := (192, [.ref 34, .null, .int x2, .int x3, .int x4, .int x5, .int x6, .int x7, .int x3, .null, .null, .null], [.int ((updI w 51 x6.toNatClampNeg ((w.1 51 x6.toNatClampNeg) + 1)).1 51 x6.toNatClampNeg)], updI w 51 x6.toNatClampNeg ((w.1 51 x6.toNatClampNeg) + 1))) rfl h8).trans <|
    (runs_stps (q' := (194, [.ref 34, .null, .int x2, .int x3, .int x4, .int x5, .int x6, .int x7, .int x3, .null, .null, .null], [.int 7, .int ((updI w 51 x6.toNatClampNeg ((w.1 51 x6.toNatClampNeg) + 1)).1 51 x6.toNatClampNeg)], updI w 51 x6.toNatClampNeg ((w.1 51 x6.toNatClampNeg) + 1))) 1 rfl).trans <|
    (runs_if_t (a := 197) (b := 207) (L := [.ref 34, .null, .int x2, .int x3, .int x4, .int x5, .int x6, .int x7, .int x3, .null, .null, .null]) (st := []) (w := updI w 51 x6.toNatClampNeg ((w.1 51 x6.toNatClampNeg) + 1)) rfl h9).trans <|
    (runs_stps (q' := (203, [.ref 34, .null, .int x2, .int x3, .int x4, .int x5, .int x6, .int x7, .int x3, .null, .null, .null], [.int x6, .ref 50], updI w 51 x6.toNatClampNeg ((w.1 51 x6.toNatClampNeg) + 1))) 3 rfl).trans <|
    (runs_ck (q' := (204, [.ref 34, .null, .int x2, .int x3, .int x4, .int x5, .int x6, .int x7, .int x3, .null, .null, .null], [.int (w.1 50 x6.toNatClampNeg)], updI w 51 x6.toNatClampNeg ((w.1 51 x6.toNatClampNeg) + 1))) rfl h10).trans <|
    (runs_stps (q' := (235, [.ref 34, .null, .int x2, .int x3, .int x4, .int x5, .int x6, .int x7, .null, .null, .null, .int (w.1 50 x6.toNatClampNeg)], [.int (-9), .int (w.1 50 x6.toNatClampNeg)], updI w 51 x6.toNatClampNeg ((w.1 51 x6.toNatClampNeg) + 1))) 4 rfl).trans <|
    (runs_if_t (a := 285) (b := 238) (L := [.ref 34, .null, .int x2, .int x3, .int x4, .int x5, .int x6, .int x7, .null, .null, .null, .int (w.1 50 x6.toNatClampNeg)]) (st := []) (w := updI w 51 x6.toNatClampNeg ((w.1 51 x6.toNatClampNeg) + 1)) rfl h11).trans <|
    (runs_stps (q' := (38, [.ref 34, .null, .int x2, .int x3, .int x4, .int x5, .int x6, .int x7, .null, .null, .null, .null], [], updI w 51 x6.toNatClampNeg ((w.1 51 x6.toNatClampNeg) + 1))) 1 rfl).trans <|
    rfl
theorem p_X9_played_38FTTTTFFT_L38 {ex : Ex} {v1 : Value} {x2 : Int32} {x3 : Int32} {x4 : Int32} {x5 : Int32} {x6 : Int32} {x7 : Int32} {v8 : Value} {v9 : Value} {v10 : Value} {v11 : Value} {w : Wd} (h1 : ¬ x6 < 0) (h2 : ¬ (x6 - x6 / 2 * 2) = 0) (h3 : ¬ x6 = x4) (h4 : ¬ (0 : Int32) = 0) (h5 : (1 : Int32) = 0) (h6 : vp_in x6 4) (h7 : vp_in x6 4) (h8 : vp_in x6 4) (h9 : ((updI w 51 x6.toNatClampNeg ((w.1 51 x6.toNatClampNeg) + 1)).1 51 x6.toNatClampNeg) = 7) (h10 : vp_in x6 5) (h11 : ¬ (w.1 50 x6.toNatClampNeg) = (-9)) (h12 : vp_in (x6 + 1) 5) (h13 : x4 ≤ (x6 + 1)) : runs (T_X9_played ex) (38, [.ref 34, v1, .int x2, .int x3, .int x4, .int x5, .int x6, .int x7, v8, v9, v10, v11], [], w) = runs (T_X9_played ex) (38, [.ref 34, .null, .int x2, .int x3, .int x4, .int x5, .int (x6 + 1), .int x7, .null, .null, .null, .null], [], updI (updI w 51 x6.toNatClampNeg ((w.1 51 x6.toNatClampNeg) + 1)) 50 ((x6 + 1).toNatClampNeg) (w.1 50 x6.toNatClampNeg)) := 
    (runs_stps (q' := (40, [.ref 34, .null, .int x2, .int x3, .int x4, .int x5, .int x6, .int x7, .null, .null, .null, .null], [.int x6], w)) 1 rfl).trans <|
    (runs_if_f (a := 288) (b := 43) (L := [.ref 34, .null, .int x2, .int x3, .int x4, .int x5, .int x6, .int x7, .null, .null, .null, .null]) (st := []) (w := w) rfl h1).trans <|
    (runs_stps (q' := (47, [.ref 34, .null, .int x2, .int x3, .int x4, .int x5, .int x6, .int x7, .null, .null, .null, .null], [.int (x6 - x6 / 2 * 2)], w)) 3 rfl).trans <|
    (runs_if_f (a := 50) (b := 54) (L := [.ref 34, .null, .int x2, .int x3, .int x4, .int x5, .int x6, .int x7, .null, .null, .null, .null]) (st := []) (w := w) rfl h2).trans <|
    (runs_stps (q' := (61, [.ref 34, .null, .int x2, .int x3, .int x4, .int x5, .int x6, .int x7, .int x3, .null, .null, .null], [.int x4, .int x6], w)) 4 rfl).trans <|
    (runs_if_f (a := 64) (b := 68) (L := [.ref 34, .null, .int x2, .int x3, .int x4, .int x5, .int x6, .int x7, .int x3, .null, .null, .null]) (st := []) (w := w) rfl h3).trans <|
    (runs_stps (q' := (73, [.ref 34, .null, .int x2, .int x3, .int x4, .int x5, .int x6, .int x7, .int x3, .int 0, .null, .null], [.int 0], w)) 3 rfl).trans <|
    (runs_if_f (a := 76) (b := 88) (L := [.ref 34, .null, .int x2, .int x3, .int x4, .int x5, .int x6, .int x7, .int x3, .int 0, .null, .null]) (st := []) (w := w) rfl h4).trans <|
    (runs_stps (q' := (97, [.ref 34, .null, .int x2, .int x3, .int x4, .int x5, .int x6, .int x7, .int x3, .int 0, .int 1, .null], [.int 1], w)) 4 rfl).trans <|
    (runs_if_t (a := 174) (b := 100) (L := [.ref 34, .null, .int x2, .int x3, .int x4, .int x5, .int x6, .int x7, .int x3, .int 0, .int 1, .null]) (st := []) (w := w) rfl h5).trans <|
    (runs_stps (q' := (181, [.ref 34, .null, .int x2, .int x3, .int x4, .int x5, .int x6, .int x7, .int x3, .null, .null, .null], [.int x6, .ref 51, .int x6, .ref 51], w)) 4 rfl).trans <|
    (runs_ck (q' := (182, [.ref 34, .null, .int x2, .int x3, .int x4, .int x5, .int x6, .int x7, .int x3, .null, .null, .null], [.int (w.1 51 x6.toNatClampNeg), .int x6, .ref 51], w)) rfl h6).trans <|
    (runs_stps (q' := (184, [.ref 34, .null, .int x2, .int x3, .int x4, .int x5, .int x6, .int x7, .int x3, .null, .null, .null], [.int ((w.1 51 x6.toNatClampNeg) + 1), .int x6, .ref 51], w)) 2 rfl).trans <|
    (runs_ck (q' := (185, [.ref 34, .null, .int x2, .int x3, .int x4, .int x5, .int x6, .int x7, .int x3, .null, .null, .null], [], updI w 51 x6.toNatClampNeg ((w.1 51 x6.toNatClampNeg) + 1))) rfl h7).trans <|
    (runs_stps (q' := (191, [.ref 34, .null, .int x2, .int x3, .int x4, .int x5, .int x6, .int x7, .int x3, .null, .null, .null], [.int x6, .ref 51], updI w 51 x6.toNatClampNeg ((w.1 51 x6.toNatClampNeg) + 1))) 3 rfl).trans <|
    (runs_ck (q' := (192, [.ref 34, .null, .int x2, .int x3, .int x4, .int x5, .int x6, .int x7, .int x3, .null, .null, .null], [.int ((updI w 51 x6.toNatClampNeg ((w.1 51 x6.toNatClampNeg) + 1)).1 51 x6.toNatClampNeg)], updI w 51 x6.toNatClampNeg ((w.1 51 x6.toNatClampNeg) + 1))) rfl h8).trans <|
    (runs_stps (q' := (194, [.ref 34, .null, .int x2, .int x3, .int x4, .int x5, .int x6, .int x7, .int x3, .null, .null, .null], [.int 7, .int ((updI w 51 x6.toNatClampNeg ((w.1 51 x6.toNatClampNeg) + 1)).1 51 x6.toNatClampNeg)], updI w 51 x6.toNatClampNeg ((w.1 51 x6.toNatClampNeg) + 1))) 1 rfl).trans <|
    (runs_if_t (a := 197) (b := 207) (L := [.ref 34, .null, .int x2, .int x3, .int x4, .int x5, .int x6, .int x7, .int x3, .null, .null, .null]) (st := []) (w := updI w 51 x6.toNatClampNeg ((w.1 51 x6.toNatClampNeg) + 1)) rfl h9).trans <|
    (runs_stps (q' := (203, [.ref 34, .null, .int x2, .int x3, .int x4, .int x5, .int x6, .int x7, .int x3, .null, .null, .null], [.int x6, .ref 50], updI w 51 x6.toNatClampNeg ((w.1 51 x6.toNatClampNeg) + 1))) 3 rfl).trans <|
    (runs_ck (q' := (204, [.ref 34, .null, .int x2, .int x3, .int x4, .int x5, .int x6, .int x7, .int x3, .null, .null, .null], [.int (w.1 50 x6.toNatClampNeg)], updI w 51 x6.toNatClampNeg ((w.1 51 x6.toNatClampNeg) + 1))) rfl h10).trans <|
    (runs_stps (q' := (235, [.ref 34, .null, .int x2, .int x3, .int x4, .int x5, .int x6, .int x7, .null, .null, .null, .int (w.1 50 x6.toNatClampNeg)], [.int (-9), .int (w.1 50 x6.toNatClampNeg)], updI w 51 x6.toNatClampNeg ((w.1 51 x6.toNatClampNeg) + 1))) 4 rfl).trans <|
    (runs_if_f (a := 285) (b := 238) (L := [.ref 34, .null, .int x2, .int x3, .int x4, .int x5, .int x6, .int x7, .null, .null, .null, .int (w.1 50 x6.toNatClampNeg)]) (st := []) (w := updI w 51 x6.toNatClampNeg ((w.1 51 x6.toNatClampNeg) + 1)) rfl h11).trans <|
    (runs_stps (q' := (249, [.ref 34, .null, .int x2, .int x3, .int x4, .int x5, .int (x6 + 1), .int x7, .null, .null, .null, .int (w.1 50 x6.toNatClampNeg)], [.int (w.1 50 x6.toNatClampNeg), .int (x6 + 1), .ref 50], updI w 51 x6.toNatClampNeg ((w.1 51 x6.toNatClampNeg) + 1))) 5 rfl).trans <|
    (runs_ck (q' := (250, [.ref 34, .null, .int x2, .int x3, .int x4, .int x5, .int (x6 + 1), .int x7, .null, .null, .null, .int (w.1 50 x6.toNatClampNeg)], [], updI (updI w 51 x6.toNatClampNeg ((w.1 51 x6.toNatClampNeg) + 1)) 50 ((x6 + 1).toNatClampNeg) (w.1 50 x6.toNatClampNeg))) rfl h12).trans <|
    (runs_stps (q' := (254, [.ref 34, .null, .int x2, .int x3, .int x4, .int x5, .int (x6 + 1), .int x7, .null, .null, .null, .int (w.1 50 x6.toNatClampNeg)], [.int x4, .int (x6 + 1)], updI (updI w 51 x6.toNatClampNeg ((w.1 51 x6.toNatClampNeg) + 1)) 50 ((x6 + 1).toNatClampNeg) (w.1 50 x6.toNatClampNeg))) 2 rfl).trans <|
    (runs_if_t (a := 285) (b := 257) (L := [.ref 34, .null, .int x2, .int x3, .int x4, .int x5, .int (x6 + 1), .int x7, .null, .null, .null, .int (w.1 50 x6.toNatClampNeg)]) (st := []) (w := updI (updI w 51 x6.toNatClampNeg ((w.1 51 x6.toNatClampNeg) + 1)) 50 ((x6 + 1).toNatClampNeg) (w.1 50 x6.toNatClampNeg)) rfl h13).trans <|
    (runs_stps (q' := (38, [.ref 34, .null, .int x2, .int x3, .int x4, .int x5, .int (x6 + 1), .int x7, .null, .null, .null, .null], [], updI (updI w 51 x6.toNatClampNeg ((w.1 51 x6.toNatClampNeg) + 1)) 50 ((x6 + 1).toNatClampNeg) (w.1 50 x6.toNatClampNeg))) 1 rfl).trans <|
    rfl
theorem p_X9_played_38FTTTTFFFT_L38 {ex : Ex} {v1 : Value} {x2 : Int32} {x3 : Int32} {x4 : Int32} {x5 : Int32} {x6 : Int32} {x7 : Int32} {v8 : Value} {v9 : Value} {v10 : Value} {v11 : Value} {w : Wd} (h1 : ¬ x6 < 0) (h2 : ¬ (x6 - x6 / 2 * 2) = 0) (h3 : ¬ x6 = x4) (h4 : ¬ (0 : Int32) = 0) (h5 : (1 : Int32) = 0) (h6 : vp_in x6 4) (h7 : vp_in x6 4) (h8 : vp_in x6 4) (h9 : ((updI w 51 x6.toNatClampNeg ((w.1 51 x6.toNatClampNeg) + 1)).1 51 x6.toNatClampNeg) = 7) (h10 : vp_in x6 5) (h11 : ¬ (w.1 50 x6.toNatClampNeg) = (-9)) (h12 : vp_in (x6 + 1) 5) (h13 : ¬ x4 ≤ (x6 + 1)) (h14 : vp_in (x6 + 1) 4) (h15 : ¬ ((x6 + 1) - (x6 + 1) / 2 * 2) = 0) (h16 : vp_in (x6 + 1) 4) : runs (T_X9_played ex) (38, [.ref 34, v1, .int x2, .int x3, .int x4, .int x5, .int x6, .int x7, v8, v9, v10, v11], [], w) = runs (T_X9_played ex) (38, [.ref 34, .null, .int x2, .int x3, .int x4, .int x5, .int (x6 + 1), .int x7, .null, .null, .null, .null], [], updI (updI (updI (updI w 51 x6.toNatClampNeg ((w.1 51 x6.toNatClampNeg) + 1)) 50 ((x6 + 1).toNatClampNeg) (w.1 50 x6.toNatClampNeg)) 51 ((x6 + 1).toNatClampNeg) (-1)) 52 ((x6 + 1).toNatClampNeg) 1) := 
    (runs_stps (q' := (40, [.ref 34, .null, .int x2, .int x3, .int x4, .int x5, .int x6, .int x7, .null, .null, .null, .null], [.int x6], w)) 1 rfl).trans <|
    (runs_if_f (a := 288) (b := 43) (L := [.ref 34, .null, .int x2, .int x3, .int x4, .int x5, .int x6, .int x7, .null, .null, .null, .null]) (st := []) (w := w) rfl h1).trans <|
    (runs_stps (q' := (47, [.ref 34, .null, .int x2, .int x3, .int x4, .int x5, .int x6, .int x7, .null, .null, .null, .null], [.int (x6 - x6 / 2 * 2)], w)) 3 rfl).trans <|
    (runs_if_f (a := 50) (b := 54) (L := [.ref 34, .null, .int x2, .int x3, .int x4, .int x5, .int x6, .int x7, .null, .null, .null, .null]) (st := []) (w := w) rfl h2).trans <|
    (runs_stps (q' := (61, [.ref 34, .null, .int x2, .int x3, .int x4, .int x5, .int x6, .int x7, .int x3, .null, .null, .null], [.int x4, .int x6], w)) 4 rfl).trans <|
    (runs_if_f (a := 64) (b := 68) (L := [.ref 34, .null, .int x2, .int x3, .int x4, .int x5, .int x6, .int x7, .int x3, .null, .null, .null]) (st := []) (w := w) rfl h3).trans <|
    (runs_stps (q' := (73, [.ref 34, .null, .int x2, .int x3, .int x4, .int x5, .int x6, .int x7, .int x3, .int 0, .null, .null], [.int 0], w)) 3 rfl).trans <|
    (runs_if_f (a := 76) (b := 88) (L := [.ref 34, .null, .int x2, .int x3, .int x4, .int x5, .int x6, .int x7, .int x3, .int 0, .null, .null]) (st := []) (w := w) rfl h4).trans <|
    (runs_stps (q' := (97, [.ref 34, .null, .int x2, .int x3, .int x4, .int x5, .int x6, .int x7, .int x3, .int 0, .int 1, .null], [.int 1], w)) 4 rfl).trans <|
    (runs_if_t (a := 174) (b := 100) (L := [.ref 34, .null, .int x2, .int x3, .int x4, .int x5, .int x6, .int x7, .int x3, .int 0, .int 1, .null]) (st := []) (w := w) rfl h5).trans <|
    (runs_stps (q' := (181, [.ref 34, .null, .int x2, .int x3, .int x4, .int x5, .int x6, .int x7, .int x3, .null, .null, .null], [.int x6, .ref 51, .int x6, .ref 51], w)) 4 rfl).trans <|
    (runs_ck (q' := (182, [.ref 34, .null, .int x2, .int x3, .int x4, .int x5, .int x6, .int x7, .int x3, .null, .null, .null], [.int (w.1 51 x6.toNatClampNeg), .int x6, .ref 51], w)) rfl h6).trans <|
    (runs_stps (q' := (184, [.ref 34, .null, .int x2, .int x3, .int x4, .int x5, .int x6, .int x7, .int x3, .null, .null, .null], [.int ((w.1 51 x6.toNatClampNeg) + 1), .int x6, .ref 51], w)) 2 rfl).trans <|
    (runs_ck (q' := (185, [.ref 34, .null, .int x2, .int x3, .int x4, .int x5, .int x6, .int x7, .int x3, .null, .null, .null], [], updI w 51 x6.toNatClampNeg ((w.1 51 x6.toNatClampNeg) + 1))) rfl h7).trans <|
    (runs_stps (q' := (191, [.ref 34, .null, .int x2, .int x3, .int x4, .int x5, .int x6, .int x7, .int x3, .null, .null, .null], [.int x6, .ref 51], updI w 51 x6.toNatClampNeg ((w.1 51 x6.toNatClampNeg) + 1))) 3 rfl).trans <|
    (runs_ck (q' := (192, [.ref 34, .null, .int x2, .int x3, .int x4, .int x5, .int x6, .int x7, .int x3, .null, .null, .null], [.int ((updI w 51 x6.toNatClampNeg ((w.1 51 x6.toNatClampNeg) + 1)).1 51 x6.toNatClampNeg)], updI w 51 x6.toNatClampNeg ((w.1 51 x6.toNatClampNeg) + 1))) rfl h8).trans <|
    (runs_stps (q' := (194, [.ref 34, .null, .int x2, .int x3, .int x4, .int x5, .int x6, .int x7, .int x3, .null, .null, .null], [.int 7, .int ((updI w 51 x6.toNatClampNeg ((w.1 51 x6.toNatClampNeg) + 1)).1 51 x6.toNatClampNeg)], updI w 51 x6.toNatClampNeg ((w.1 51 x6.toNatClampNeg) + 1))) 1 rfl).trans <|
    (runs_if_t (a := 197) (b := 207) (L := [.ref 34, .null, .int x2, .int x3, .int x4, .int x5, .int x6, .int x7, .int x3, .null, .null, .null]) (st := []) (w := updI w 51 x6.toNatClampNeg ((w.1 51 x6.toNatClampNeg) + 1)) rfl h9).trans <|
    (runs_stps (q' := (203, [.ref 34, .null, .int x2, .int x3, .int x4, .int x5, .int x6, .int x7, .int x3, .null, .null, .null], [.int x6, .ref 50], updI w 51 x6.toNatClampNeg ((w.1 51 x6.toNatClampNeg) + 1))) 3 rfl).trans <|
    (runs_ck (q' := (204, [.ref 34, .null, .int x2, .int x3, .int x4, .int x5, .int x6, .int x7, .int x3, .null, .null, .null], [.int (w.1 50 x6.toNatClampNeg)], updI w 51 x6.toNatClampNeg ((w.1 51 x6.toNatClampNeg) + 1))) rfl h10).trans <|
    (runs_stps (q' := (235, [.ref 34, .null, .int x2, .int x3, .int x4, .int x5, .int x6, .int x7, .null, .null, .null, .int (w.1 50 x6.toNatClampNeg)], [.int (-9), .int (w.1 50 x6.toNatClampNeg)], updI w 51 x6.toNatClampNeg ((w.1 51 x6.toNatClampNeg) + 1))) 4 rfl).trans <|
    (runs_if_f (a := 285) (b := 238) (L := [.ref 34, .null, .int x2, .int x3, .int x4, .int x5, .int x6, .int x7, .null, .null, .null, .int (w.1 50 x6.toNatClampNeg)]) (st := []) (w := updI w 51 x6.toNatClampNeg ((w.1 51 x6.toNatClampNeg) + 1)) rfl h11).trans <|
    (runs_stps (q' := (249, [.ref 34, .null, .int x2, .int x3, .int x4, .int x5, .int (x6 + 1), .int x7, .null, .null, .null, .int (w.1 50 x6.toNatClampNeg)], [.int (w.1 50 x6.toNatClampNeg), .int (x6 + 1), .ref 50], updI w 51 x6.toNatClampNeg ((w.1 51 x6.toNatClampNeg) + 1))) 5 rfl).trans <|
    (runs_ck (q' := (250, [.ref 34, .null, .int x2, .int x3, .int x4, .int x5, .int (x6 + 1), .int x7, .null, .null, .null, .int (w.1 50 x6.toNatClampNeg)], [], updI (updI w 51 x6.toNatClampNeg ((w.1 51 x6.toNatClampNeg) + 1)) 50 ((x6 + 1).toNatClampNeg) (w.1 50 x6.toNatClampNeg))) rfl h12).trans <|
    (runs_stps (q' := (254, [.ref 34, .null, .int x2, .int x3, .int x4, .int x5, .int (x6 + 1), .int x7, .null, .null, .null, .int (w.1 50 x6.toNatClampNeg)], [.int x4, .int (x6 + 1)], updI (updI w 51 x6.toNatClampNeg ((w.1 51 x6.toNatClampNeg) + 1)) 50 ((x6 + 1).toNatClampNeg) (w.1 50 x6.toNatClampNeg))) 2 rfl).trans <|
    (runs_if_f (a := 285) (b := 257) (L := [.ref 34, .null, .int x2, .int x3, .int x4, .int x5, .int (x6 + 1), .int x7, .null, .null, .null, .int (w.1 50 x6.toNatClampNeg)]) (st := []) (w := updI (updI w 51 x6.toNatClampNeg ((w.1 51 x6.toNatClampNeg) + 1)) 50 ((x6 + 1).toNatClampNeg) (w.1 50 x6.toNatClampNeg)) rfl h13).trans <|
    (runs_stps (q' := (264, [.ref 34, .null, .int x2, .int x3, .int x4, .int x5, .int (x6 + 1), .int x7, .null, .null, .null, .int (w.1 50 x6.toNatClampNeg)], [.int (-1), .int (x6 + 1), .ref 51], updI (updI w 51 x6.toNatClampNeg ((w.1 51 x6.toNatClampNeg) + 1)) 50 ((x6 + 1).toNatClampNeg) (w.1 50 x6.toNatClampNeg))) 4 rfl).trans <|
    (runs_ck (q' := (265, [.ref 34, .null, .int x2, .int x3, .int x4, .int x5, .int (x6 + 1), .int x7, .null, .null, .null, .int (w.1 50 x6.toNatClampNeg)], [], updI (updI (updI w 51 x6.toNatClampNeg ((w.1 51 x6.toNatClampNeg) + 1)) 50 ((x6 + 1).toNatClampNeg) (w.1 50 x6.toNatClampNeg)) 51 ((x6 + 1).toNatClampNeg) (-1))) rfl h14).trans <|
    (runs_stps (q' := (275, [.ref 34, .null, .int x2, .int x3, .int x4, .int x5, .int (x6 + 1), .int x7, .null, .null, .null, .int (w.1 50 x6.toNatClampNeg)], [.int ((x6 + 1) - (x6 + 1) / 2 * 2), .int (x6 + 1), .ref 52], updI (updI (updI w 51 x6.toNatClampNeg ((w.1 51 x6.toNatClampNeg) + 1)) 50 ((x6 + 1).toNatClampNeg) (w.1 50 x6.toNatClampNeg)) 51 ((x6 + 1).toNatClampNeg) (-1))) 6 rfl).trans <|
    (runs_if_f (a := 278) (b := 283) (L := [.ref 34, .null, .int x2, .int x3, .int x4, .int x5, .int (x6 + 1), .int x7, .null, .null, .null, .int (w.1 50 x6.toNatClampNeg)]) (st := [.int (x6 + 1), .ref 52]) (w := updI (updI (updI w 51 x6.toNatClampNeg ((w.1 51 x6.toNatClampNeg) + 1)) 50 ((x6 + 1).toNatClampNeg) (w.1 50 x6.toNatClampNeg)) 51 ((x6 + 1).toNatClampNeg) (-1)) rfl h15).trans <|
    (runs_stps (q' := (284, [.ref 34, .null, .int x2, .int x3, .int x4, .int x5, .int (x6 + 1), .int x7, .null, .null, .null, .null], [.int 1, .int (x6 + 1), .ref 52], updI (updI (updI w 51 x6.toNatClampNeg ((w.1 51 x6.toNatClampNeg) + 1)) 50 ((x6 + 1).toNatClampNeg) (w.1 50 x6.toNatClampNeg)) 51 ((x6 + 1).toNatClampNeg) (-1))) 1 rfl).trans <|
    (runs_ck (q' := (285, [.ref 34, .null, .int x2, .int x3, .int x4, .int x5, .int (x6 + 1), .int x7, .null, .null, .null, .null], [], updI (updI (updI (updI w 51 x6.toNatClampNeg ((w.1 51 x6.toNatClampNeg) + 1)) 50 ((x6 + 1).toNatClampNeg) (w.1 50 x6.toNatClampNeg)) 51 ((x6 + 1).toNatClampNeg) (-1)) 52 ((x6 + 1).toNatClampNeg) 1)) rfl h16).trans <|
    (runs_stps (q' := (38, [.ref 34, .null, .int x2, .int x3, .int x4, .int x5, .int (x6 + 1), .int x7, .null, .null, .null, .null], [], updI (updI (updI (updI w 51 x6.toNatClampNeg ((w.1 51 x6.toNatClampNeg) + 1)) 50 ((x6 + 1).toNatClampNeg) (w.1 50 x6.toNatClampNeg)) 51 ((x6 + 1).toNatClampNeg) (-1)) 52 ((x6 + 1).toNatClampNeg) 1)) 1 rfl).trans <|
    rfl
theorem p_X9_played_38FTTTTFFFF_L38 {ex : Ex} {v1 : Value} {x2 : Int32} {x3 : Int32} {x4 : Int32} {x5 : Int32} {x6 : Int32} {x7 : Int32} {v8 : Value} {v9 : Value} {v10 : Value} {v11 : Value} {w : Wd} (h1 : ¬ x6 < 0) (h2 : ¬ (x6 - x6 / 2 * 2) = 0) (h3 : ¬ x6 = x4) (h4 : ¬ (0 : Int32) = 0) (h5 : (1 : Int32) = 0) (h6 : vp_in x6 4) (h7 : vp_in x6 4) (h8 : vp_in x6 4) (h9 : ((updI w 51 x6.toNatClampNeg ((w.1 51 x6.toNatClampNeg) + 1)).1 51 x6.toNatClampNeg) = 7) (h10 : vp_in x6 5) (h11 : ¬ (w.1 50 x6.toNatClampNeg) = (-9)) (h12 : vp_in (x6 + 1) 5) (h13 : ¬ x4 ≤ (x6 + 1)) (h14 : vp_in (x6 + 1) 4) (h15 : ((x6 + 1) - (x6 + 1) / 2 * 2) = 0) (h16 : vp_in (x6 + 1) 4) : runs (T_X9_played ex) (38, [.ref 34, v1, .int x2, .int x3, .int x4, .int x5, .int x6, .int x7, v8, v9, v10, v11], [], w) = runs (T_X9_played ex) (38, [.ref 34, .null, .int x2, .int x3, .int x4, .int x5, .int (x6 + 1), .int x7, .null, .null, .null, .null], [], updI (updI (updI (updI w 51 x6.toNatClampNeg ((w.1 51 x6.toNatClampNeg) + 1)) 50 ((x6 + 1).toNatClampNeg) (w.1 50 x6.toNatClampNeg)) 51 ((x6 + 1).toNatClampNeg) (-1)) 52 ((x6 + 1).toNatClampNeg) (-9)) := 
    (runs_stps (q' := (40, [.ref 34, .null, .int x2, .int x3, .int x4, .int x5, .int x6, .int x7, .null, .null, .null, .null], [.int x6], w)) 1 rfl).trans <|
    (runs_if_f (a := 288) (b := 43) (L := [.ref 34, .null, .int x2, .int x3, .int x4, .int x5, .int x6, .int x7, .null, .null, .null, .null]) (st := []) (w := w) rfl h1).trans <|
    (runs_stps (q' := (47, [.ref 34, .null, .int x2, .int x3, .int x4, .int x5, .int x6, .int x7, .null, .null, .null, .null], [.int (x6 - x6 / 2 * 2)], w)) 3 rfl).trans <|
    (runs_if_f (a := 50) (b := 54) (L := [.ref 34, .null, .int x2, .int x3, .int x4, .int x5, .int x6, .int x7, .null, .null, .null, .null]) (st := []) (w := w) rfl h2).trans <|
    (runs_stps (q' := (61, [.ref 34, .null, .int x2, .int x3, .int x4, .int x5, .int x6, .int x7, .int x3, .null, .null, .null], [.int x4, .int x6], w)) 4 rfl).trans <|
    (runs_if_f (a := 64) (b := 68) (L := [.ref 34, .null, .int x2, .int x3, .int x4, .int x5, .int x6, .int x7, .int x3, .null, .null, .null]) (st := []) (w := w) rfl h3).trans <|
    (runs_stps (q' := (73, [.ref 34, .null, .int x2, .int x3, .int x4, .int x5, .int x6, .int x7, .int x3, .int 0, .null, .null], [.int 0], w)) 3 rfl).trans <|
    (runs_if_f (a := 76) (b := 88) (L := [.ref 34, .null, .int x2, .int x3, .int x4, .int x5, .int x6, .int x7, .int x3, .int 0, .null, .null]) (st := []) (w := w) rfl h4).trans <|
    (runs_stps (q' := (97, [.ref 34, .null, .int x2, .int x3, .int x4, .int x5, .int x6, .int x7, .int x3, .int 0, .int 1, .null], [.int 1], w)) 4 rfl).trans <|
    (runs_if_t (a := 174) (b := 100) (L := [.ref 34, .null, .int x2, .int x3, .int x4, .int x5, .int x6, .int x7, .int x3, .int 0, .int 1, .null]) (st := []) (w := w) rfl h5).trans <|
    (runs_stps (q' := (181, [.ref 34, .null, .int x2, .int x3, .int x4, .int x5, .int x6, .int x7, .int x3, .null, .null, .null], [.int x6, .ref 51, .int x6, .ref 51], w)) 4 rfl).trans <|
    (runs_ck (q' := (182, [.ref 34, .null, .int x2, .int x3, .int x4, .int x5, .int x6, .int x7, .int x3, .null, .null, .null], [.int (w.1 51 x6.toNatClampNeg), .int x6, .ref 51], w)) rfl h6).trans <|
    (runs_stps (q' := (184, [.ref 34, .null, .int x2, .int x3, .int x4, .int x5, .int x6, .int x7, .int x3, .null, .null, .null], [.int ((w.1 51 x6.toNatClampNeg) + 1), .int x6, .ref 51], w)) 2 rfl).trans <|
    (runs_ck (q' := (185, [.ref 34, .null, .int x2, .int x3, .int x4, .int x5, .int x6, .int x7, .int x3, .null, .null, .null], [], updI w 51 x6.toNatClampNeg ((w.1 51 x6.toNatClampNeg) + 1))) rfl h7).trans <|
    (runs_stps (q' := (191, [.ref 34, .null, .int x2, .int x3, .int x4, .int x5, .int x6, .int x7, .int x3, .null, .null, .null], [.int x6, .ref 51], updI w 51 x6.toNatClampNeg ((w.1 51 x6.toNatClampNeg) + 1))) 3 rfl).trans <|
    (runs_ck (q' := (192, [.ref 34, .null, .int x2, .int x3, .int x4, .int x5, .int x6, .int x7, .int x3, .null, .null, .null], [.int ((updI w 51 x6.toNatClampNeg ((w.1 51 x6.toNatClampNeg) + 1)).1 51 x6.toNatClampNeg)], updI w 51 x6.toNatClampNeg ((w.1 51 x6.toNatClampNeg) + 1))) rfl h8).trans <|
    (runs_stps (q' := (194, [.ref 34, .null, .int x2, .int x3, .int x4, .int x5, .int x6, .int x7, .int x3, .null, .null, .null], [.int 7, .int ((updI w 51 x6.toNatClampNeg ((w.1 51 x6.toNatClampNeg) + 1)).1 51 x6.toNatClampNeg)], updI w 51 x6.toNatClampNeg ((w.1 51 x6.toNatClampNeg) + 1))) 1 rfl).trans <|
    (runs_if_t (a := 197) (b := 207) (L := [.ref 34, .null, .int x2, .int x3, .int x4, .int x5, .int x6, .int x7, .int x3, .null, .null, .null]) (st := []) (w := updI w 51 x6.toNatClampNeg ((w.1 51 x6.toNatClampNeg) + 1)) rfl h9).trans <|
    (runs_stps (q' := (203, [.ref 34, .null, .int x2, .int x3, .int x4, .int x5, .int x6, .int x7, .int x3, .null, .null, .null], [.int x6, .ref 50], updI w 51 x6.toNatClampNeg ((w.1 51 x6.toNatClampNeg) + 1))) 3 rfl).trans <|
    (runs_ck (q' := (204, [.ref 34, .null, .int x2, .int x3, .int x4, .int x5, .int x6, .int x7, .int x3, .null, .null, .null], [.int (w.1 50 x6.toNatClampNeg)], updI w 51 x6.toNatClampNeg ((w.1 51 x6.toNatClampNeg) + 1))) rfl h10).trans <|
    (runs_stps (q' := (235, [.ref 34, .null, .int x2, .int x3, .int x4, .int x5, .int x6, .int x7, .null, .null, .null, .int (w.1 50 x6.toNatClampNeg)], [.int (-9), .int (w.1 50 x6.toNatClampNeg)], updI w 51 x6.toNatClampNeg ((w.1 51 x6.toNatClampNeg) + 1))) 4 rfl).trans <|
    (runs_if_f (a := 285) (b := 238) (L := [.ref 34, .null, .int x2, .int x3, .int x4, .int x5, .int x6, .int x7, .null, .null, .null, .int (w.1 50 x6.toNatClampNeg)]) (st := []) (w := updI w 51 x6.toNatClampNeg ((w.1 51 x6.toNatClampNeg) + 1)) rfl h11).trans <|
    (runs_stps (q' := (249, [.ref 34, .null, .int x2, .int x3, .int x4, .int x5, .int (x6 + 1), .int x7, .null, .null, .null, .int (w.1 50 x6.toNatClampNeg)], [.int (w.1 50 x6.toNatClampNeg), .int (x6 + 1), .ref 50], updI w 51 x6.toNatClampNeg ((w.1 51 x6.toNatClampNeg) + 1))) 5 rfl).trans <|
    (runs_ck (q' := (250, [.ref 34, .null, .int x2, .int x3, .int x4, .int x5, .int (x6 + 1), .int x7, .null, .null, .null, .int (w.1 50 x6.toNatClampNeg)], [], updI (updI w 51 x6.toNatClampNeg ((w.1 51 x6.toNatClampNeg) + 1)) 50 ((x6 + 1).toNatClampNeg) (w.1 50 x6.toNatClampNeg))) rfl h12).trans <|
    (runs_stps (q' := (254, [.ref 34, .null, .int x2, .int x3, .int x4, .int x5, .int (x6 + 1), .int x7, .null, .null, .null, .int (w.1 50 x6.toNatClampNeg)], [.int x4, .int (x6 + 1)], updI (updI w 51 x6.toNatClampNeg ((w.1 51 x6.toNatClampNeg) + 1)) 50 ((x6 + 1).toNatClampNeg) (w.1 50 x6.toNatClampNeg))) 2 rfl).trans <|
    (runs_if_f (a := 285) (b := 257) (L := [.ref 34, .null, .int x2, .int x3, .int x4, .int x5, .int (x6 + 1), .int x7, .null, .null, .null, .int (w.1 50 x6.toNatClampNeg)]) (st := []) (w := updI (updI w 51 x6.toNatClampNeg ((w.1 51 x6.toNatClampNeg) + 1)) 50 ((x6 + 1).toNatClampNeg) (w.1 50 x6.toNatClampNeg)) rfl h13).trans <|
    (runs_stps (q' := (264, [.ref 34, .null, .int x2, .int x3, .int x4, .int x5, .int (x6 + 1), .int x7, .null, .null, .null, .int (w.1 50 x6.toNatClampNeg)], [.int (-1), .int (x6 + 1), .ref 51], updI (updI w 51 x6.toNatClampNeg ((w.1 51 x6.toNatClampNeg) + 1)) 50 ((x6 + 1).toNatClampNeg) (w.1 50 x6.toNatClampNeg))) 4 rfl).trans <|
    (runs_ck (q' := (265, [.ref 34, .null, .int x2, .int x3, .int x4, .int x5, .int (x6 + 1), .int x7, .null, .null, .null, .int (w.1 50 x6.toNatClampNeg)], [], updI (updI (updI w 51 x6.toNatClampNeg ((w.1 51 x6.toNatClampNeg) + 1)) 50 ((x6 + 1).toNatClampNeg) (w.1 50 x6.toNatClampNeg)) 51 ((x6 + 1).toNatClampNeg) (-1))) rfl h14).trans <|
    (runs_stps (q' := (275, [.ref 34, .null, .int x2, .int x3, .int x4, .int x5, .int (x6 + 1), .int x7, .null, .null, .null, .int (w.1 50 x6.toNatClampNeg)], [.int ((x6 + 1) - (x6 + 1) / 2 * 2), .int (x6 + 1), .ref 52], updI (updI (updI w 51 x6.toNatClampNeg ((w.1 51 x6.toNatClampNeg) + 1)) 50 ((x6 + 1).toNatClampNeg) (w.1 50 x6.toNatClampNeg)) 51 ((x6 + 1).toNatClampNeg) (-1))) 6 rfl).trans <|
    (runs_if_t (a := 278) (b := 283) (L := [.ref 34, .null, .int x2, .int x3, .int x4, .int x5, .int (x6 + 1), .int x7, .null, .null, .null, .int (w.1 50 x6.toNatClampNeg)]) (st := [.int (x6 + 1), .ref 52]) (w := updI (updI (updI w 51 x6.toNatClampNeg ((w.1 51 x6.toNatClampNeg) + 1)) 50 ((x6 + 1).toNatClampNeg) (w.1 50 x6.toNatClampNeg)) 51 ((x6 + 1).toNatClampNeg) (-1)) rfl h15).trans <|
    (runs_stps (q' := (284, [.ref 34, .null, .int x2, .int x3, .int x4, .int x5, .int (x6 + 1), .int x7, .null, .null, .null, .int (w.1 50 x6.toNatClampNeg)], [.int (-9), .int (x6 + 1), .ref 52], updI (updI (updI w 51 x6.toNatClampNeg ((w.1 51 x6.toNatClampNeg) + 1)) 50 ((x6 + 1).toNatClampNeg) (w.1 50 x6.toNatClampNeg)) 51 ((x6 + 1).toNatClampNeg) (-1))) 2 rfl).trans <|
    (runs_ck (q' := (285, [.ref 34, .null, .int x2, .int x3, .int x4, .int x5, .int (x6 + 1), .int x7, .null, .null, .null, .null], [], updI (updI (updI (updI w 51 x6.toNatClampNeg ((w.1 51 x6.toNatClampNeg) + 1)) 50 ((x6 + 1).toNatClampNeg) (w.1 50 x6.toNatClampNeg)) 51 ((x6 + 1).toNatClampNeg) (-1)) 52 ((x6 + 1).toNatClampNeg) (-9))) rfl h16).trans <|
    (runs_stps (q' := (38, [.ref 34, .null, .int x2, .int x3, .int x4, .int x5, .int (x6 + 1), .int x7, .null, .null, .null, .null], [], updI (updI (updI (updI w 51 x6.toNatClampNeg ((w.1 51 x6.toNatClampNeg) + 1)) 50 ((x6 + 1).toNatClampNeg) (w.1 50 x6.toNatClampNeg)) 51 ((x6 + 1).toNatClampNeg) (-1)) 52 ((x6 + 1).toNatClampNeg) (-9))) 1 rfl).trans <|
    rfl
theorem p_X9_played_38FTTTFTT_L38 {ex : Ex} {v1 : Value} {x2 : Int32} {x3 : Int32} {x4 : Int32} {x5 : Int32} {x6 : Int32} {x7 : Int32} {v8 : Value} {v9 : Value} {v10 : Value} {v11 : Value} {w1 : Wd} {w : Wd} (h1 : ¬ x6 < 0) (h2 : ¬ (x6 - x6 / 2 * 2) = 0) (h3 : ¬ x6 = x4) (h4 : ¬ (0 : Int32) = 0) (h5 : ¬ (1 : Int32) = 0) (h6 : (0 : Int32) = 0) (h7 : ¬ (x6 - x6 / 2 * 2) = 0) (h8 : vp_in x6 4) (h9 : ex 188 [.ref 34, .int (x6 + (-1)), .int (w.1 52 x6.toNatClampNeg)] w = some (none, w1)) : runs (T_X9_played ex) (38, [.ref 34, v1, .int x2, .int x3, .int x4, .int x5, .int x6, .int x7, v8, v9, v10, v11], [], w) = runs (T_X9_played ex) (38, [.ref 34, .null, .int x2, .int x3, .int x4, .int x5, .int (x6 + (-1)), .int (w.1 52 x6.toNatClampNeg), .null, .null, .null, .null], [], w1) := 
    (runs_stps (q' := (40, [.ref 34, .null, .int x2, .int x3, .int x4, .int x5, .int x6, .int x7, .null, .null, .null, .null], [.int x6], w)) 1 rfl).trans <|
    (runs_if_f (a := 288) (b := 43) (L := [.ref 34, .null, .int x2, .int x3, .int x4, .int x5, .int x6, .int x7, .null, .null, .null, .null]) (st := []) (w := w) rfl h1).trans <|
    (runs_stps (q' := (47, [.ref 34, .null, .int x2, .int x3, .int x4, .int x5, .int x6, .int x7, .null, .null, .null, .null], [.int (x6 - x6 / 2 * 2)], w)) 3 rfl).trans <|
    (runs_if_f (a := 50) (b := 54) (L := [.ref 34, .null, .int x2, .int x3, .int x4, .int x5, .int x6, .int x7, .null, .null, .null, .null]) (st := []) (w := w) rfl h2).trans <|
    (runs_stps (q' := (61, [.ref 34, .null, .int x2, .int x3, .int x4, .int x5, .int x6, .int x7, .int x3, .null, .null, .null], [.int x4, .int x6], w)) 4 rfl).trans <|
    (runs_if_f (a := 64) (b := 68) (L := [.ref 34, .null, .int x2, .int x3, .int x4, .int x5, .int x6, .int x7, .int x3, .null, .null, .null]) (st := []) (w := w) rfl h3).trans <|
    (runs_stps (q' := (73, [.ref 34, .null, .int x2, .int x3, .int x4, .int x5, .int x6, .int x7, .int x3, .int 0, .null, .null], [.int 0], w)) 3 rfl).trans <|
    (runs_if_f (a := 76) (b := 88) (L := [.ref 34, .null, .int x2, .int x3, .int x4, .int x5, .int x6, .int x7, .int x3, .int 0, .null, .null]) (st := []) (w := w) rfl h4).trans <|
    (runs_stps (q' := (97, [.ref 34, .null, .int x2, .int x3, .int x4, .int x5, .int x6, .int x7, .int x3, .int 0, .int 1, .null], [.int 1], w)) 4 rfl).trans <|
    (runs_if_f (a := 174) (b := 100) (L := [.ref 34, .null, .int x2, .int x3, .int x4, .int x5, .int x6, .int x7, .int x3, .int 0, .int 1, .null]) (st := []) (w := w) rfl h5).trans <|
    (runs_stps (q' := (102, [.ref 34, .null, .int x2, .int x3, .int x4, .int x5, .int x6, .int x7, .int x3, .int 0, .int 1, .null], [.int 0], w)) 1 rfl).trans <|
    (runs_if_t (a := 124) (b := 105) (L := [.ref 34, .null, .int x2, .int x3, .int x4, .int x5, .int x6, .int x7, .int x3, .int 0, .int 1, .null]) (st := []) (w := w) rfl h6).trans <|
    (runs_stps (q' := (128, [.ref 34, .null, .int x2, .int x3, .int x4, .int x5, .int x6, .null, .null, .null, .null, .null], [.int (x6 - x6 / 2 * 2)], w)) 3 rfl).trans <|
    (runs_if_f (a := 131) (b := 151) (L := [.ref 34, .null, .int x2, .int x3, .int x4, .int x5, .int x6, .null, .null, .null, .null, .null]) (st := []) (w := w) rfl h7).trans <|
    (runs_stps (q' := (157, [.ref 34, .null, .int x2, .int x3, .int x4, .int x5, .int x6, .null, .null, .null, .null, .null], [.int x6, .ref 52], w)) 3 rfl).trans <|
    (runs_ck (q' := (158, [.ref 34, .null, .int x2, .int x3, .int x4, .int x5, .int x6, .null, .null, .null, .null, .null], [.int (w.1 52 x6.toNatClampNeg)], w)) rfl h8).trans <|
    (runs_stps (q' := (168, [.ref 34, .null, .int x2, .int x3, .int x4, .int x5, .int (x6 + (-1)), .int (w.1 52 x6.toNatClampNeg), .null, .null, .null, .null], [.int (w.1 52 x6.toNatClampNeg), .int (x6 + (-1)), .ref 34], w)) 5 rfl).trans <|
    (runs_callV (rv := none) (w' := w1) rfl rfl rfl rfl h9).trans <|
    (runs_stps (q' := (38, [.ref 34, .null, .int x2, .int x3, .int x4, .int x5, .int (x6 + (-1)), .int (w.1 52 x6.toNatClampNeg), .null, .null, .null, .null], [], w1)) 2 rfl).trans <|
    rfl
theorem p_X9_played_38FTTTFTFT_L38 {ex : Ex} {v1 : Value} {x2 : Int32} {x3 : Int32} {x4 : Int32} {x5 : Int32} {x6 : Int32} {x7 : Int32} {v8 : Value} {v9 : Value} {v10 : Value} {v11 : Value} {w1 : Wd} {w : Wd} (h1 : ¬ x6 < 0) (h2 : ¬ (x6 - x6 / 2 * 2) = 0) (h3 : ¬ x6 = x4) (h4 : ¬ (0 : Int32) = 0) (h5 : ¬ (1 : Int32) = 0) (h6 : (0 : Int32) = 0) (h7 : (x6 - x6 / 2 * 2) = 0) (h8 : vp_in x6 4) (h9 : ¬ (w.1 52 x6.toNatClampNeg) = (-9)) (h10 : ex 188 [.ref 34, .int (x6 + (-1)), .int 1] w = some (none, w1)) : runs (T_X9_played ex) (38, [.ref 34, v1, .int x2, .int x3, .int x4, .int x5, .int x6, .int x7, v8, v9, v10, v11], [], w) = runs (T_X9_played ex) (38, [.ref 34, .null, .int x2, .int x3, .int x4, .int x5, .int (x6 + (-1)), .int 1, .null, .null, .null, .null], [], w1) := 
    (runs_stps (q' := (40, [.ref 34, .null, .int x2, .int x3, .int x4, .int x5, .int x6, .int x7, .null, .null, .null, .null], [.int x6], w)) 1 rfl).trans <|
    (runs_if_f (a := 288) (b := 43) (L := [.ref 34, .null, .int x2, .int x3, .int x4, .int x5, .int x6, .int x7, .null, .null, .null, .null]) (st := []) (w := w) rfl h1).trans <|
    (runs_stps (q' := (47, [.ref 34, .null, .int x2, .int x3, .int x4, .int x5, .int x6, .int x7, .null, .null, .null, .null], [.int (x6 - x6 / 2 * 2)], w)) 3 rfl).trans <|
    (runs_if_f (a := 50) (b := 54) (L := [.ref 34, .null, .int x2, .int x3, .int x4, .int x5, .int x6, .int x7, .null, .null, .null, .null]) (st := []) (w := w) rfl h2).trans <|
    (runs_stps (q' := (61, [.ref 34, .null, .int x2, .int x3, .int x4, .int x5, .int x6, .int x7, .int x3, .null, .null, .null], [.int x4, .int x6], w)) 4 rfl).trans <|
    (runs_if_f (a := 64) (b := 68) (L := [.ref 34, .null, .int x2, .int x3, .int x4, .int x5, .int x6, .int x7, .int x3, .null, .null, .null]) (st := []) (w := w) rfl h3).trans <|
    (runs_stps (q' := (73, [.ref 34, .null, .int x2, .int x3, .int x4, .int x5, .int x6, .int x7, .int x3, .int 0, .null, .null], [.int 0], w)) 3 rfl).trans <|
    (runs_if_f (a := 76) (b := 88) (L := [.ref 34, .null, .int x2, .int x3, .int x4, .int x5, .int x6, .int x7, .int x3, .int 0, .null, .null]) (st := []) (w := w) rfl h4).trans <|
    (runs_stps (q' := (97, [.ref 34, .null, .int x2, .int x3, .int x4, .int x5, .int x6, .int x7, .int x3, .int 0, .int 1, .null], [.int 1], w)) 4 rfl).trans <|
    (runs_if_f (a := 174) (b := 100) (L := [.ref 34, .null, .int x2, .int x3, .int x4, .int x5, .int x6, .int x7, .int x3, .int 0, .int 1, .null]) (st := []) (w := w) rfl h5).trans <|
    (runs_stps (q' := (102, [.ref 34, .null, .int x2, .int x3, .int x4, .int x5, .int x6, .int x7, .int x3, .int 0, .int 1, .null], [.int 0], w)) 1 rfl).trans <|
    (runs_if_t (a := 124) (b := 105) (L := [.ref 34, .null, .int x2, .int x3, .int x4, .int x5, .int x6, .int x7, .int x3, .int 0, .int 1, .null]) (st := []) (w := w) rfl h6).trans <|
    (runs_stps (q' := (128, [.ref 34, .null, .int x2, .int x3, .int x4, .int x5, .int x6, .null, .null, .null, .null, .null], [.int (x6 - x6 / 2 * 2)], w)) 3 rfl).trans <|
    (runs_if_t (a := 131) (b := 151) (L := [.ref 34, .null, .int x2, .int x3, .int x4, .int x5, .int x6, .null, .null, .null, .null, .null]) (st := []) (w := w) rfl h7).trans <|
    (runs_stps (q' := (137, [.ref 34, .null, .int x2, .int x3, .int x4, .int x5, .int x6, .null, .null, .null, .null, .null], [.int x6, .ref 52], w)) 3 rfl).trans <|
    (runs_ck (q' := (138, [.ref 34, .null, .int x2, .int x3, .int x4, .int x5, .int x6, .null, .null, .null, .null, .null], [.int (w.1 52 x6.toNatClampNeg)], w)) rfl h8).trans <|
    (runs_stps (q' := (140, [.ref 34, .null, .int x2, .int x3, .int x4, .int x5, .int x6, .null, .null, .null, .null, .null], [.int (-9), .int (w.1 52 x6.toNatClampNeg)], w)) 1 rfl).trans <|
    (runs_if_f (a := 143) (b := 147) (L := [.ref 34, .null, .int x2, .int x3, .int x4, .int x5, .int x6, .null, .null, .null, .null, .null]) (st := []) (w := w) rfl h9).trans <|
    (runs_stps (q' := (168, [.ref 34, .null, .int x2, .int x3, .int x4, .int x5, .int (x6 + (-1)), .int 1, .null, .null, .null, .null], [.int 1, .int (x6 + (-1)), .ref 34], w)) 7 rfl).trans <|
    (runs_callV (rv := none) (w' := w1) rfl rfl rfl rfl h10).trans <|
    (runs_stps (q' := (38, [.ref 34, .null, .int x2, .int x3, .int x4, .int x5, .int (x6 + (-1)), .int 1, .null, .null, .null, .null], [], w1)) 2 rfl).trans <|
    rfl
theorem p_X9_played_38FTTTFTFF_L38 {ex : Ex} {v1 : Value} {x2 : Int32} {x3 : Int32} {x4 : Int32} {x5 : Int32} {x6 : Int32} {x7 : Int32} {v8 : Value} {v9 : Value} {v10 : Value} {v11 : Value} {w1 : Wd} {w : Wd} (h1 : ¬ x6 < 0) (h2 : ¬ (x6 - x6 / 2 * 2) = 0) (h3 : ¬ x6 = x4) (h4 : ¬ (0 : Int32) = 0) (h5 : ¬ (1 : Int32) = 0) (h6 : (0 : Int32) = 0) (h7 : (x6 - x6 / 2 * 2) = 0) (h8 : vp_in x6 4) (h9 : (w.1 52 x6.toNatClampNeg) = (-9)) (h10 : ex 188 [.ref 34, .int (x6 + (-1)), .int 0] w = some (none, w1)) : runs (T_X9_played ex) (38, [.ref 34, v1, .int x2, .int x3, .int x4, .int x5, .int x6, .int x7, v8, v9, v10, v11], [], w) = runs (T_X9_played ex) (38, [.ref 34, .null, .int x2, .int x3, .int x4, .int x5, .int (x6 + (-1)), .int 0, .null, .null, .null, .null], [], w1) := 
    (runs_stps (q' := (40, [.ref 34, .null, .int x2, .int x3, .int x4, .int x5, .int x6, .int x7, .null, .null, .null, .null], [.int x6], w)) 1 rfl).trans <|
    (runs_if_f (a := 288) (b := 43) (L := [.ref 34, .null, .int x2, .int x3, .int x4, .int x5, .int x6, .int x7, .null, .null, .null, .null]) (st := []) (w := w) rfl h1).trans <|
    (runs_stps (q' := (47, [.ref 34, .null, .int x2, .int x3, .int x4, .int x5, .int x6, .int x7, .null, .null, .null, .null], [.int (x6 - x6 / 2 * 2)], w)) 3 rfl).trans <|
    (runs_if_f (a := 50) (b := 54) (L := [.ref 34, .null, .int x2, .int x3, .int x4, .int x5, .int x6, .int x7, .null, .null, .null, .null]) (st := []) (w := w) rfl h2).trans <|
    (runs_stps (q' := (61, [.ref 34, .null, .int x2, .int x3, .int x4, .int x5, .int x6, .int x7, .int x3, .null, .null, .null], [.int x4, .int x6], w)) 4 rfl).trans <|
    (runs_if_f (a := 64) (b := 68) (L := [.ref 34, .null, .int x2, .int x3, .int x4, .int x5, .int x6, .int x7, .int x3, .null, .null, .null]) (st := []) (w := w) rfl h3).trans <|
    (runs_stps (q' := (73, [.ref 34, .null, .int x2, .int x3, .int x4, .int x5, .int x6, .int x7, .int x3, .int 0, .null, .null], [.int 0], w)) 3 rfl).trans <|
    (runs_if_f (a := 76) (b := 88) (L := [.ref 34, .null, .int x2, .int x3, .int x4, .int x5, .int x6, .int x7, .int x3, .int 0, .null, .null]) (st := []) (w := w) rfl h4).trans <|
    (runs_stps (q' := (97, [.ref 34, .null, .int x2, .int x3, .int x4, .int x5, .int x6, .int x7, .int x3, .int 0, .int 1, .null], [.int 1], w)) 4 rfl).trans <|
    (runs_if_f (a := 174) (b := 100) (L := [.ref 34, .null, .int x2, .int x3, .int x4, .int x5, .int x6, .int x7, .int x3, .int 0, .int 1, .null]) (st := []) (w := w) rfl h5).trans <|
    (runs_stps (q' := (102, [.ref 34, .null, .int x2, .int x3, .int x4, .int x5, .int x6, .int x7, .int x3, .int 0, .int 1, .null], [.int 0], w)) 1 rfl).trans <|
    (runs_if_t (a := 124) (b := 105) (L := [.ref 34, .null, .int x2, .int x3, .int x4, .int x5, .int x6, .int x7, .int x3, .int 0, .int 1, .null]) (st := []) (w := w) rfl h6).trans <|
    (runs_stps (q' := (128, [.ref 34, .null, .int x2, .int x3, .int x4, .int x5, .int x6, .null, .null, .null, .null, .null], [.int (x6 - x6 / 2 * 2)], w)) 3 rfl).trans <|
    (runs_if_t (a := 131) (b := 151) (L := [.ref 34, .null, .int x2, .int x3, .int x4, .int x5, .int x6, .null, .null, .null, .null, .null]) (st := []) (w := w) rfl h7).trans <|
    (runs_stps (q' := (137, [.ref 34, .null, .int x2, .int x3, .int x4, .int x5, .int x6, .null, .null, .null, .null, .null], [.int x6, .ref 52], w)) 3 rfl).trans <|
    (runs_ck (q' := (138, [.ref 34, .null, .int x2, .int x3, .int x4, .int x5, .int x6, .null, .null, .null, .null, .null], [.int (w.1 52 x6.toNatClampNeg)], w)) rfl h8).trans <|
    (runs_stps (q' := (140, [.ref 34, .null, .int x2, .int x3, .int x4, .int x5, .int x6, .null, .null, .null, .null, .null], [.int (-9), .int (w.1 52 x6.toNatClampNeg)], w)) 1 rfl).trans <|
    (runs_if_t (a := 143) (b := 147) (L := [.ref 34, .null, .int x2, .int x3, .int x4, .int x5, .int x6, .null, .null, .null, .null, .null]) (st := []) (w := w) rfl h9).trans <|
    (runs_stps (q' := (168, [.ref 34, .null, .int x2, .int x3, .int x4, .int x5, .int (x6 + (-1)), .int 0, .null, .null, .null, .null], [.int 0, .int (x6 + (-1)), .ref 34], w)) 7 rfl).trans <|
    (runs_callV (rv := none) (w' := w1) rfl rfl rfl rfl h10).trans <|
    (runs_stps (q' := (38, [.ref 34, .null, .int x2, .int x3, .int x4, .int x5, .int (x6 + (-1)), .int 0, .null, .null, .null, .null], [], w1)) 2 rfl).trans <|
    rfl
theorem p_X9_played_38FTTTFF_L38 {ex : Ex} {v1 : Value} {x2 : Int32} {x3 : Int32} {x4 : Int32} {x5 : Int32} {x6 : Int32} {x7 : Int32} {v8 : Value} {v9 : Value} {v10 : Value} {v11 : Value} {r1 : Int32} {w1 : Wd} {w2 : Wd} {w : Wd} (h1 : ¬ x6 < 0) (h2 : ¬ (x6 - x6 / 2 * 2) = 0) (h3 : ¬ x6 = x4) (h4 : ¬ (0 : Int32) = 0) (h5 : ¬ (1 : Int32) = 0) (h6 : ¬ (0 : Int32) = 0) (h7 : vp_in x4 5) (h8 : ex 156 [.ref 34, .int (w.1 50 x4.toNatClampNeg)] w = some (some (.int r1), w1)) (h9 : ex 188 [.ref 34, .int (x6 + (-1)), .int ((r1 >>> (x5 &&& 31)) &&& 1)] w1 = some (none, w2)) : runs (T_X9_played ex) (38, [.ref 34, v1, .int x2, .int x3, .int x4, .int x5, .int x6, .int x7, v8, v9, v10, v11], [], w) = runs (T_X9_played ex) (38, [.ref 34, .null, .int x2, .int x3, .int x4, .int x5, .int (x6 + (-1)), .int ((r1 >>> (x5 &&& 31)) &&& 1), .null, .null, .null, .null], [], w2) := 
    (runs_stps (q' := (40, [.ref 34, .null, .int x2, .int x3, .int x4, .int x5, .int x6, .int x7, .null, .null, .null, .null], [.int x6], w)) 1 rfl).trans <|
    (runs_if_f (a := 288) (b := 43) (L := [.ref 34, .null, .int x2, .int x3, .int x4, .int x5, .int x6, .int x7, .null, .null, .null, .null]) (st := []) (w := w) rfl h1).trans <|
    (runs_stps (q' := (47, [.ref 34, .null, .int x2, .int x3, .int x4, .int x5, .int x6, .int x7, .null, .null, .null, .null], [.int (x6 - x6 / 2 * 2)], w)) 3 rfl).trans <|
    (runs_if_f (a := 50) (b := 54) (L := [.ref 34, .null, .int x2, .int x3, .int x4, .int x5, .int x6, .int x7, .null, .null, .null, .null]) (st := []) (w := w) rfl h2).trans <|
    (runs_stps (q' := (61, [.ref 34, .null, .int x2, .int x3, .int x4, .int x5, .int x6, .int x7, .int x3, .null, .null, .null], [.int x4, .int x6], w)) 4 rfl).trans <|
    (runs_if_f (a := 64) (b := 68) (L := [.ref 34, .null, .int x2, .int x3, .int x4, .int x5, .int x6, .int x7, .int x3, .null, .null, .null]) (st := []) (w := w) rfl h3).trans <|
    (runs_stps (q' := (73, [.ref 34, .null, .int x2, .int x3, .int x4, .int x5, .int x6, .int x7, .int x3, .int 0, .null, .null], [.int 0], w)) 3 rfl).trans <|
    (runs_if_f (a := 76) (b := 88) (L := [.ref 34, .null, .int x2, .int x3, .int x4, .int x5, .int x6, .int x7, .int x3, .int 0, .null, .null]) (st := []) (w := w) rfl h4).trans <|
    (runs_stps (q' := (97, [.ref 34, .null, .int x2, .int x3, .int x4, .int x5, .int x6, .int x7, .int x3, .int 0, .int 1, .null], [.int 1], w)) 4 rfl).trans <|
    (runs_if_f (a := 174) (b := 100) (L := [.ref 34, .null, .int x2, .int x3, .int x4, .int x5, .int x6, .int x7, .int x3, .int 0, .int 1, .null]) (st := []) (w := w) rfl h5).trans <|
    (runs_stps (q' := (102, [.ref 34, .null, .int x2, .int x3, .int x4, .int x5, .int x6, .int x7, .int x3, .int 0, .int 1, .null], [.int 0], w)) 1 rfl).trans <|
    (runs_if_f (a := 124) (b := 105) (L := [.ref 34, .null, .int x2, .int x3, .int x4, .int x5, .int x6, .int x7, .int x3, .int 0, .int 1, .null]) (st := []) (w := w) rfl h6).trans <|
    (runs_stps (q' := (112, [.ref 34, .null, .int x2, .int x3, .int x4, .int x5, .int x6, .int x7, .int x3, .int 0, .int 1, .null], [.int x4, .ref 50, .ref 34], w)) 4 rfl).trans <|
    (runs_ck (q' := (113, [.ref 34, .null, .int x2, .int x3, .int x4, .int x5, .int x6, .int x7, .int x3, .int 0, .int 1, .null], [.int (w.1 50 x4.toNatClampNeg), .ref 34], w)) rfl h7).trans <|
    (runs_callV (rv := some (.int r1)) (w' := w1) rfl rfl rfl rfl h8).trans <|
    (runs_stps (q' := (168, [.ref 34, .null, .int x2, .int x3, .int x4, .int x5, .int (x6 + (-1)), .int ((r1 >>> (x5 &&& 31)) &&& 1), .null, .null, .null, .null], [.int ((r1 >>> (x5 &&& 31)) &&& 1), .int (x6 + (-1)), .ref 34], w1)) 10 rfl).trans <|
    (runs_callV (rv := none) (w' := w2) rfl rfl rfl rfl h9).trans <|
    (runs_stps (q' := (38, [.ref 34, .null, .int x2, .int x3, .int x4, .int x5, .int (x6 + (-1)), .int ((r1 >>> (x5 &&& 31)) &&& 1), .null, .null, .null, .null], [], w2)) 2 rfl).trans <|
    rfl
theorem p_X9_played_38FTTFTTTT_L38 {ex : Ex} {v1 : Value} {x2 : Int32} {x3 : Int32} {x4 : Int32} {x5 : Int32} {x6 : Int32} {x7 : Int32} {v8 : Value} {v9 : Value} {v10 : Value} {v11 : Value} {r1 : Int32} {w1 : Wd} {w : Wd} (h1 : ¬ x6 < 0) (h2 : ¬ (x6 - x6 / 2 * 2) = 0) (h3 : ¬ x6 = x4) (h4 : (0 : Int32) = 0) (h5 : vp_in x6 4) (h6 : ¬ (w.1 51 x6.toNatClampNeg) = 7) (h7 : (0 : Int32) = 0) (h8 : vp_in x6 4) (h9 : vp_in x6 4) (h10 : vp_in x6 4) (h11 : ¬ ((updI w 51 x6.toNatClampNeg ((w.1 51 x6.toNatClampNeg) + 1)).1 51 x6.toNatClampNeg) = 7) (h12 : vp_in x6 5) (h13 : vp_in x6 4) (h14 : ex 171 [.ref 34, .int (w.1 50 x6.toNatClampNeg), .int ((updI w 51 x6.toNatClampNeg ((w.1 51 x6.toNatClampNeg) + 1)).1 51 x6.toNatClampNeg), .int (1 <<< (x3 &&& 31))] (updI w 51 x6.toNatClampNeg ((w.1 51 x6.toNatClampNeg) + 1)) = some (some (.int r1), w1)) (h15 : r1 = (-9)) : runs (T_X9_played ex) (38, [.ref 34, v1, .int x2, .int x3, .int x4, .int x5, .int x6, .int x7, v8, v9, v10, v11], [], w) = runs (T_X9_played ex) (38, [.ref 34, .null, .int x2, .int x3, .int x4, .int x5, .int x6, .int x7, .null, .null, .null, .null], [], w1) := 
    (runs_stps (q' := (40, [.ref 34, .null, .int x2, .int x3, .int x4, .int x5, .int x6, .int x7, .null, .null, .null, .null], [.int x6], w)) 1 rfl).trans <|
    (runs_if_f (a := 288) (b := 43) (L := [.ref 34, .null, .int x2, .int x3, .int x4, .int x5, .int x6, .int x7, .null, .null, .null, .null]) (st := []) (w := w) rfl h1).trans <|
    (runs_stps (q' := (47, [.ref 34, .null, .int x2, .int x3, .int x4, .int x5, .int x6, .int x7, .null, .null, .null, .null], [.int (x6 - x6 / 2 * 2)], w)) 3 rfl).trans <|
    (runs_if_f (a := 50) (b := 54) (L := [.ref 34, .null, .int x2, .int x3, .int x4, .int x5, .int x6, .int x7, .null, .null, .null, .null]) (st := []) (w := w) rfl h2).trans <|
    (runs_stps (q' := (61, [.ref 34, .null, .int x2, .int x3, .int x4, .int x5, .int x6, .int x7, .int x3, .null, .null, .null], [.int x4, .int x6], w)) 4 rfl).trans <|
    (runs_if_f (a := 64) (b := 68) (L := [.ref 34, .null, .int x2, .int x3, .int x4, .int x5, .int x6, .int x7, .int x3, .null, .null, .null]) (st := []) (w := w) rfl h3).trans <|
    (runs_stps (q' := (73, [.ref 34, .null, .int x2, .int x3, .int x4, .int x5, .int x6, .int x7, .int x3, .int 0, .null, .null], [.int 0], w)) 3 rfl).trans <|
    (runs_if_t (a := 76) (b := 88) (L := [.ref 34, .null, .int x2, .int x3, .int x4, .int x5, .int x6, .int x7, .int x3, .int 0, .null, .null]) (st := []) (w := w) rfl h4).trans <|
    (runs_stps (q' := (82, [.ref 34, .null, .int x2, .int x3, .int x4, .int x5, .int x6, .int x7, .int x3, .int 0, .null, .null], [.int x6, .ref 51], w)) 3 rfl).trans <|
    (runs_ck (q' := (83, [.ref 34, .null, .int x2, .int x3, .int x4, .int x5, .int x6, .int x7, .int x3, .int 0, .null, .null], [.int (w.1 51 x6.toNatClampNeg)], w)) rfl h5).trans <|
    (runs_stps (q' := (85, [.ref 34, .null, .int x2, .int x3, .int x4, .int x5, .int x6, .int x7, .int x3, .int 0, .null, .null], [.int 7, .int (w.1 51 x6.toNatClampNeg)], w)) 1 rfl).trans <|
    (runs_if_f (a := 88) (b := 92) (L := [.ref 34, .null, .int x2, .int x3, .int x4, .int x5, .int x6, .int x7, .int x3, .int 0, .null, .null]) (st := []) (w := w) rfl h6).trans <|
    (runs_stps (q' := (97, [.ref 34, .null, .int x2, .int x3, .int x4, .int x5, .int x6, .int x7, .int x3, .int 0, .int 0, .null], [.int 0], w)) 3 rfl).trans <|
    (runs_if_t (a := 174) (b := 100) (L := [.ref 34, .null, .int x2, .int x3, .int x4, .int x5, .int x6, .int x7, .int x3, .int 0, .int 0, .null]) (st := []) (w := w) rfl h7).trans <|
    (runs_stps (q' := (181, [.ref 34, .null, .int x2, .int x3, .int x4, .int x5, .int x6, .int x7, .int x3, .null, .null, .null], [.int x6, .ref 51, .int x6, .ref 51], w)) 4 rfl).trans <|
    (runs_ck (q' := (182, [.ref 34, .null, .int x2, .int x3, .int x4, .int x5, .int x6, .int x7, .int x3, .null, .null, .null], [.int (w.1 51 x6.toNatClampNeg), .int x6, .ref 51], w)) rfl h8).trans <|
    (runs_stps (q' := (184, [.ref 34, .null, .int x2, .int x3, .int x4, .int x5, .int x6, .int x7, .int x3, .null, .null, .null], [.int ((w.1 51 x6.toNatClampNeg) + 1), .int x6, .ref 51], w)) 2 rfl).trans <|
    (runs_ck (q' := (185, [.ref 34, .null, .int x2, .int x3, .int x4, .int x5, .int x6, .int x7, .int x3, .null, .null, .null], [], updI w 51 x6.toNatClampNeg ((w.1 51 x6.toNatClampNeg) + 1))) rfl h9).trans <|
    (runs_stps (q' := (191, [.ref 34, .null, .int x2, .int x3, .int x4, .int x5, .int x6, .int x7, .int x3, .null, .null, .null], [.int x6, .ref 51], updI w 51 x6.toNatClampNeg ((w.1 51 x6.toNatClampNeg) + 1))) 3 rfl).trans <|
    (runs_ck (q' := (192, [.ref 34, .null, .int x2, .int x3, .int x4, .int x5, .int x6, .int x7, .int x3, .null, .null, .null], [.int ((updI w 51 x6.toNatClampNeg ((w.1 51 x6.toNatClampNeg) + 1)).1 51 x6.toNatClampNeg)], updI w 51 x6.toNatClampNeg ((w.1 51 x6.toNatClampNeg) + 1))) rfl h10).trans <|
    (runs_stps (q' := (194, [.ref 34, .null, .int x2, .int x3, .int x4, .int x5, .int x6, .int x7, .int x3, .null, .null, .null], [.int 7, .int ((updI w 51 x6.toNatClampNeg ((w.1 51 x6.toNatClampNeg) + 1)).1 51 x6.toNatClampNeg)], updI w 51 x6.toNatClampNeg ((w.1 51 x6.toNatClampNeg) + 1))) 1 rfl).trans <|
    (runs_if_f (a := 197) (b := 207) (L := [.ref 34, .null, .int x2, .int x3, .int x4, .int x5, .int x6, .int x7, .int x3, .null, .null, .null]) (st := []) (w := updI w 51 x6.toNatClampNeg ((w.1 51 x6.toNatClampNeg) + 1)) rfl h11).trans <|
    (runs_stps (q' := (214, [.ref 34, .null, .int x2, .int x3, .int x4, .int x5, .int x6, .int x7, .int x3, .null, .null, .null], [.int x6, .ref 50, .ref 34], updI w 51 x6.toNatClampNeg ((w.1 51 x6.toNatClampNeg) + 1))) 4 rfl).trans <|
    (runs_ck (q' := (215, [.ref 34, .null, .int x2, .int x3, .int x4, .int x5, .int x6, .int x7, .int x3, .null, .null, .null], [.int (w.1 50 x6.toNatClampNeg), .ref 34], updI w 51 x6.toNatClampNeg ((w.1 51 x6.toNatClampNeg) + 1))) rfl h12).trans <|
    (runs_stps (q' := (221, [.ref 34, .null, .int x2, .int x3, .int x4, .int x5, .int x6, .int x7, .int x3, .null, .null, .null], [.int x6, .ref 51, .int (w.1 50 x6.toNatClampNeg), .ref 34], updI w 51 x6.toNatClampNeg ((w.1 51 x6.toNatClampNeg) + 1))) 3 rfl).trans <|
    (runs_ck (q' := (222, [.ref 34, .null, .int x2, .int x3, .int x4, .int x5, .int x6, .int x7, .int x3, .null, .null, .null], [.int ((updI w 51 x6.toNatClampNeg ((w.1 51 x6.toNatClampNeg) + 1)).1 51 x6.toNatClampNeg), .int (w.1 50 x6.toNatClampNeg), .ref 34], updI w 51 x6.toNatClampNeg ((w.1 51 x6.toNatClampNeg) + 1))) rfl h13).trans <|
    (runs_stps (q' := (226, [.ref 34, .null, .int x2, .int x3, .int x4, .int x5, .int x6, .int x7, .int x3, .null, .null, .null], [.int (1 <<< (x3 &&& 31)), .int ((updI w 51 x6.toNatClampNeg ((w.1 51 x6.toNatClampNeg) + 1)).1 51 x6.toNatClampNeg), .int (w.1 50 x6.toNatClampNeg), .ref 34], updI w 51 x6.toNatClampNeg ((w.1 51 x6.toNatClampNeg) + 1))) 3 rfl).trans <|
    (runs_callV (rv := some (.int r1)) (w' := w1) rfl rfl rfl rfl h14).trans <|
    (runs_stps (q' := (235, [.ref 34, .null, .int x2, .int x3, .int x4, .int x5, .int x6, .int x7, .null, .null, .null, .int r1], [.int (-9), .int r1], w1)) 3 rfl).trans <|
    (runs_if_t (a := 285) (b := 238) (L := [.ref 34, .null, .int x2, .int x3, .int x4, .int x5, .int x6, .int x7, .null, .null, .null, .int r1]) (st := []) (w := w1) rfl h15).trans <|
    (runs_stps (q' := (38, [.ref 34, .null, .int x2, .int x3, .int x4, .int x5, .int x6, .int x7, .null, .null, .null, .null], [], w1)) 1 rfl).trans <|
    rfl
theorem p_X9_played_38FTTFTTTFT_L38 {ex : Ex} {v1 : Value} {x2 : Int32} {x3 : Int32} {x4 : Int32} {x5 : Int32} {x6 : Int32} {x7 : Int32} {v8 : Value} {v9 : Value} {v10 : Value} {v11 : Value} {r1 : Int32} {w1 : Wd} {w : Wd} (h1 : ¬ x6 < 0) (h2 : ¬ (x6 - x6 / 2 * 2) = 0) (h3 : ¬ x6 = x4) (h4 : (0 : Int32) = 0) (h5 : vp_in x6 4) (h6 : ¬ (w.1 51 x6.toNatClampNeg) = 7) (h7 : (0 : Int32) = 0) (h8 : vp_in x6 4) (h9 : vp_in x6 4) (h10 : vp_in x6 4) (h11 : ¬ ((updI w 51 x6.toNatClampNeg ((w.1 51 x6.toNatClampNeg) + 1)).1 51 x6.toNatClampNeg) = 7) (h12 : vp_in x6 5) (h13 : vp_in x6 4) (h14 : ex 171 [.ref 34, .int (w.1 50 x6.toNatClampNeg), .int ((updI w 51 x6.toNatClampNeg ((w.1 51 x6.toNatClampNeg) + 1)).1 51 x6.toNatClampNeg), .int (1 <<< (x3 &&& 31))] (updI w 51 x6.toNatClampNeg ((w.1 51 x6.toNatClampNeg) + 1)) = some (some (.int r1), w1)) (h15 : ¬ r1 = (-9)) (h16 : vp_in (x6 + 1) 5) (h17 : x4 ≤ (x6 + 1)) : runs (T_X9_played ex) (38, [.ref 34, v1, .int x2, .int x3, .int x4, .int x5, .int x6, .int x7, v8, v9, v10, v11], [], w) = runs (T_X9_played ex) (38, [.ref 34, .null, .int x2, .int x3, .int x4, .int x5, .int (x6 + 1), .int x7, .null, .null, .null, .null], [], updI w1 50 ((x6 + 1).toNatClampNeg) r1) := 
    (runs_stps (q' := (40, [.ref 34, .null, .int x2, .int x3, .int x4, .int x5, .int x6, .int x7, .null, .null, .null, .null], [.int x6], w)) 1 rfl).trans <|
    (runs_if_f (a := 288) (b := 43) (L := [.ref 34, .null, .int x2, .int x3, .int x4, .int x5, .int x6, .int x7, .null, .null, .null, .null]) (st := []) (w := w) rfl h1).trans <|
    (runs_stps (q' := (47, [.ref 34, .null, .int x2, .int x3, .int x4, .int x5, .int x6, .int x7, .null, .null, .null, .null], [.int (x6 - x6 / 2 * 2)], w)) 3 rfl).trans <|
    (runs_if_f (a := 50) (b := 54) (L := [.ref 34, .null, .int x2, .int x3, .int x4, .int x5, .int x6, .int x7, .null, .null, .null, .null]) (st := []) (w := w) rfl h2).trans <|
    (runs_stps (q' := (61, [.ref 34, .null, .int x2, .int x3, .int x4, .int x5, .int x6, .int x7, .int x3, .null, .null, .null], [.int x4, .int x6], w)) 4 rfl).trans <|
    (runs_if_f (a := 64) (b := 68) (L := [.ref 34, .null, .int x2, .int x3, .int x4, .int x5, .int x6, .int x7, .int x3, .null, .null, .null]) (st := []) (w := w) rfl h3).trans <|
    (runs_stps (q' := (73, [.ref 34, .null, .int x2, .int x3, .int x4, .int x5, .int x6, .int x7, .int x3, .int 0, .null, .null], [.int 0], w)) 3 rfl).trans <|
    (runs_if_t (a := 76) (b := 88) (L := [.ref 34, .null, .int x2, .int x3, .int x4, .int x5, .int x6, .int x7, .int x3, .int 0, .null, .null]) (st := []) (w := w) rfl h4).trans <|
    (runs_stps (q' := (82, [.ref 34, .null, .int x2, .int x3, .int x4, .int x5, .int x6, .int x7, .int x3, .int 0, .null, .null], [.int x6, .ref 51], w)) 3 rfl).trans <|
    (runs_ck (q' := (83, [.ref 34, .null, .int x2, .int x3, .int x4, .int x5, .int x6, .int x7, .int x3, .int 0, .null, .null], [.int (w.1 51 x6.toNatClampNeg)], w)) rfl h5).trans <|
    (runs_stps (q' := (85, [.ref 34, .null, .int x2, .int x3, .int x4, .int x5, .int x6, .int x7, .int x3, .int 0, .null, .null], [.int 7, .int (w.1 51 x6.toNatClampNeg)], w)) 1 rfl).trans <|
    (runs_if_f (a := 88) (b := 92) (L := [.ref 34, .null, .int x2, .int x3, .int x4, .int x5, .int x6, .int x7, .int x3, .int 0, .null, .null]) (st := []) (w := w) rfl h6).trans <|
    (runs_stps (q' := (97, [.ref 34, .null, .int x2, .int x3, .int x4, .int x5, .int x6, .int x7, .int x3, .int 0, .int 0, .null], [.int 0], w)) 3 rfl).trans <|
    (runs_if_t (a := 174) (b := 100) (L := [.ref 34, .null, .int x2, .int x3, .int x4, .int x5, .int x6, .int x7, .int x3, .int 0, .int 0, .null]) (st := []) (w := w) rfl h7).trans <|
    (runs_stps (q' := (181, [.ref 34, .null, .int x2, .int x3, .int x4, .int x5, .int x6, .int x7, .int x3, .null, .null, .null], [.int x6, .ref 51, .int x6, .ref 51], w)) 4 rfl).trans <|
    (runs_ck (q' := (182, [.ref 34, .null, .int x2, .int x3, .int x4, .int x5, .int x6, .int x7, .int x3, .null, .null, .null], [.int (w.1 51 x6.toNatClampNeg), .int x6, .ref 51], w)) rfl h8).trans <|
    (runs_stps (q' := (184, [.ref 34, .null, .int x2, .int x3, .int x4, .int x5, .int x6, .int x7, .int x3, .null, .null, .null], [.int ((w.1 51 x6.toNatClampNeg) + 1), .int x6, .ref 51], w)) 2 rfl).trans <|
    (runs_ck (q' := (185, [.ref 34, .null, .int x2, .int x3, .int x4, .int x5, .int x6, .int x7, .int x3, .null, .null, .null], [], updI w 51 x6.toNatClampNeg ((w.1 51 x6.toNatClampNeg) + 1))) rfl h9).trans <|
    (runs_stps (q' := (191, [.ref 34, .null, .int x2, .int x3, .int x4, .int x5, .int x6, .int x7, .int x3, .null, .null, .null], [.int x6, .ref 51], updI w 51 x6.toNatClampNeg ((w.1 51 x6.toNatClampNeg) + 1))) 3 rfl).trans <|
    (runs_ck (q' := (192, [.ref 34, .null, .int x2, .int x3, .int x4, .int x5, .int x6, .int x7, .int x3, .null, .null, .null], [.int ((updI w 51 x6.toNatClampNeg ((w.1 51 x6.toNatClampNeg) + 1)).1 51 x6.toNatClampNeg)], updI w 51 x6.toNatClampNeg ((w.1 51 x6.toNatClampNeg) + 1))) rfl h10).trans <|
    (runs_stps (q' := (194, [.ref 34, .null, .int x2, .int x3, .int x4, .int x5, .int x6, .int x7, .int x3, .null, .null, .null], [.int 7, .int ((updI w 51 x6.toNatClampNeg ((w.1 51 x6.toNatClampNeg) + 1)).1 51 x6.toNatClampNeg)], updI w 51 x6.toNatClampNeg ((w.1 51 x6.toNatClampNeg) + 1))) 1 rfl).trans <|
    (runs_if_f (a := 197) (b := 207) (L := [.ref 34, .null, .int x2, .int x3, .int x4, .int x5, .int x6, .int x7, .int x3, .null, .null, .null]) (st := []) (w := updI w 51 x6.toNatClampNeg ((w.1 51 x6.toNatClampNeg) + 1)) rfl h11).trans <|
    (runs_stps (q' := (214, [.ref 34, .null, .int x2, .int x3, .int x4, .int x5, .int x6, .int x7, .int x3, .null, .null, .null], [.int x6, .ref 50, .ref 34], updI w 51 x6.toNatClampNeg ((w.1 51 x6.toNatClampNeg) + 1))) 4 rfl).trans <|
    (runs_ck (q' := (215, [.ref 34, .null, .int x2, .int x3, .int x4, .int x5, .int x6, .int x7, .int x3, .null, .null, .null], [.int (w.1 50 x6.toNatClampNeg), .ref 34], updI w 51 x6.toNatClampNeg ((w.1 51 x6.toNatClampNeg) + 1))) rfl h12).trans <|
    (runs_stps (q' := (221, [.ref 34, .null, .int x2, .int x3, .int x4, .int x5, .int x6, .int x7, .int x3, .null, .null, .null], [.int x6, .ref 51, .int (w.1 50 x6.toNatClampNeg), .ref 34], updI w 51 x6.toNatClampNeg ((w.1 51 x6.toNatClampNeg) + 1))) 3 rfl).trans <|
    (runs_ck (q' := (222, [.ref 34, .null, .int x2, .int x3, .int x4, .int x5, .int x6, .int x7, .int x3, .null, .null, .null], [.int ((updI w 51 x6.toNatClampNeg ((w.1 51 x6.toNatClampNeg) + 1)).1 51 x6.toNatClampNeg), .int (w.1 50 x6.toNatClampNeg), .ref 34], updI w 51 x6.toNatClampNeg ((w.1 51 x6.toNatClampNeg) + 1))) rfl h13).trans <|
    (runs_stps (q' := (226, [.ref 34, .null, .int x2, .int x3, .int x4, .int x5, .int x6, .int x7, .int x3, .null, .null, .null], [.int (1 <<< (x3 &&& 31)), .int ((updI w 51 x6.toNatClampNeg ((w.1 51 x6.toNatClampNeg) + 1)).1 51 x6.toNatClampNeg), .int (w.1 50 x6.toNatClampNeg), .ref 34], updI w 51 x6.toNatClampNeg ((w.1 51 x6.toNatClampNeg) + 1))) 3 rfl).trans <|
    (runs_callV (rv := some (.int r1)) (w' := w1) rfl rfl rfl rfl h14).trans <|
    (runs_stps (q' := (235, [.ref 34, .null, .int x2, .int x3, .int x4, .int x5, .int x6, .int x7, .null, .null, .null, .int r1], [.int (-9), .int r1], w1)) 3 rfl).trans <|
    (runs_if_f (a := 285) (b := 238) (L := [.ref 34, .null, .int x2, .int x3, .int x4, .int x5, .int x6, .int x7, .null, .null, .null, .int r1]) (st := []) (w := w1) rfl h15).trans <|
    (runs_stps (q' := (249, [.ref 34, .null, .int x2, .int x3, .int x4, .int x5, .int (x6 + 1), .int x7, .null, .null, .null, .int r1], [.int r1, .int (x6 + 1), .ref 50], w1)) 5 rfl).trans <|
    (runs_ck (q' := (250, [.ref 34, .null, .int x2, .int x3, .int x4, .int x5, .int (x6 + 1), .int x7, .null, .null, .null, .int r1], [], updI w1 50 ((x6 + 1).toNatClampNeg) r1)) rfl h16).trans <|
    (runs_stps (q' := (254, [.ref 34, .null, .int x2, .int x3, .int x4, .int x5, .int (x6 + 1), .int x7, .null, .null, .null, .int r1], [.int x4, .int (x6 + 1)], updI w1 50 ((x6 + 1).toNatClampNeg) r1)) 2 rfl).trans <|
    (runs_if_t (a := 285) (b := 257) (L := [.ref 34, .null, .int x2, .int x3, .int x4, .int x5, .int (x6 + 1), .int x7, .null, .null, .null, .int r1]) (st := []) (w := updI w1 50 ((x6 + 1).toNatClampNeg) r1) rfl h17).trans <|
    (runs_stps (q' := (38, [.ref 34, .null, .int x2, .int x3, .int x4, .int x5, .int (x6 + 1), .int x7, .null, .null, .null, .null], [], updI w1 50 ((x6 + 1).toNatClampNeg) r1)) 1 rfl).trans <|
    rfl

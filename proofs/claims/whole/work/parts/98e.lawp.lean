/-! the law's body, case by case (printed by a program) -/
section LAWP
variable {L : Nat} {xs : Nat → Int32} {ex : Ex} {x : Int32} {w w1 w2 : Wd}
def lwC : List (Int32 × Nat) := [(0, 160), (1, 223), (2, 236), (3, 249), (4, 282), (5, 315), (6, 348), (7, 371), (8, 414), (9, 447), (10, 480), (11, 523), (12, 536), (13, 559), (14, 612), (15, 645), (16, 678), (17, 711), (18, 724), (19, 737), (20, 760), (21, 773), (22, 848), (23, 892), (24, 925), (25, 948), (26, 971), (27, 994)]
set_option maxRecDepth 100000 in
theorem lw_head (h1 : ¬ nI L - 7 < x) (h2 : ¬ (x < 0 ∨ L ≤ x.toNatClampNeg)) : runs (T_law L xs ex) (18, [.ref 400, .ref 0, .ref 34, .int x], [], w) = runs (T_law L xs ex) (tsel (xs x.toNatClampNeg &&& 31) lwC 1008, [.ref 400, .ref 0, .ref 34, .int x], [], w) :=
  (runs_stps (q' := (24, [.ref 400, .ref 0, .ref 34, .int x], [.int (nI L - 7), .int x], w)) 5 rfl).trans <|
  (runs_if_f (a := 1014) (b := 27) (L := [.ref 400, .ref 0, .ref 34, .int x]) (st := []) (w := w) rfl h1).trans <|
  (runs_stps (q' := (29, [.ref 400, .ref 0, .ref 34, .int x], [.int x, .ref 400], w)) 2 rfl).trans <|
  (runs_ck (q' := (30, [.ref 400, .ref 0, .ref 34, .int x], [.int (xs x.toNatClampNeg)], w)) rfl h2).trans <|
  (runs_stps (q' := (33, [.ref 400, .ref 0, .ref 34, .int x], [.int (xs x.toNatClampNeg &&& 31)], w)) 2 rfl).trans <|
  (runs_sw (x := xs x.toNatClampNeg &&& 31) (ps := lwC) (d := 1008) (L := [.ref 400, .ref 0, .ref 34, .int x]) (st := []) (w := w) rfl rfl)
set_option maxRecDepth 100000 in
theorem lw_end (h1 : nI L - 7 < x) : runs (T_law L xs ex) (18, [.ref 400, .ref 0, .ref 34, .int x], [], w) = some (some (.int 1), w) :=
  (runs_stps (q' := (24, [.ref 400, .ref 0, .ref 34, .int x], [.int (nI L - 7), .int x], w)) 5 rfl).trans <|
  (runs_if_t (a := 1014) (b := 27) (L := [.ref 400, .ref 0, .ref 34, .int x]) (st := []) (w := w) rfl h1).trans <|
  (runs_stps (q' := (1015, [.ref 400, .ref 0, .ref 34, .int x], [.int 1], w)) 1 rfl).trans <|
  (runs_ret rfl)
set_option maxRecDepth 100000 in
theorem lw_next : runs (T_law L xs ex) (1008, [.ref 400, .ref 0, .ref 34, .int x], [], w) = runs (T_law L xs ex) (18, [.ref 400, .ref 0, .ref 34, .int (x + 7)], [], w) := runs_stps 2 rfl
set_option maxRecDepth 100000 in
theorem lw_0 {v : Int32} (g1 : ¬ (x + 1 < 0 ∨ L ≤ (x + 1).toNatClampNeg)) (g2 : ¬ (x + 2 < 0 ∨ L ≤ (x + 2).toNatClampNeg)) (g3 : ¬ (x + 3 < 0 ∨ L ≤ (x + 3).toNatClampNeg)) (h1 : ex 102 [.ref 0, .long (((((((xs ((x + 1).toNatClampNeg))).toInt64)) <<< ((32 : Int32).toInt64 &&& 63))) ||| (((((xs ((x + 2).toNatClampNeg))).toInt64)) &&& 4294967295)), .int (xs ((x + 3).toNatClampNeg))] w = some (some (.int v), w1)) (h2 : ex 137 [.ref 34, .long (((((((xs ((x + 1).toNatClampNeg))).toInt64)) <<< ((32 : Int32).toInt64 &&& 63))) ||| (((((xs ((x + 2).toNatClampNeg))).toInt64)) &&& 4294967295)), .int (xs ((x + 3).toNatClampNeg))] w1 = some (some (.int v), w2)) : runs (T_law L xs ex) (160, [.ref 400, .ref 0, .ref 34, .int x], [], w) = runs (T_law L xs ex) (18, [.ref 400, .ref 0, .ref 34, .int (x + 7)], [], w2) :=
  (runs_stps (q' := (165, [.ref 400, .ref 0, .ref 34, .int x], [.int (x + 1), .ref 400, .ref 0], w)) 5 rfl).trans <|
  (runs_ck (q' := (166, [.ref 400, .ref 0, .ref 34, .int x], [.int (xs ((x + 1).toNatClampNeg)), .ref 0], w)) rfl g1).trans <|
  (runs_stps (q' := (174, [.ref 400, .ref 0, .ref 34, .int x], [.int (x + 2), .ref 400, .long (((((xs ((x + 1).toNatClampNeg))).toInt64)) <<< ((32 : Int32).toInt64 &&& 63)), .ref 0], w)) 7 rfl).trans <|
  (runs_ck (q' := (175, [.ref 400, .ref 0, .ref 34, .int x], [.int (xs ((x + 2).toNatClampNeg)), .long (((((xs ((x + 1).toNatClampNeg))).toInt64)) <<< ((32 : Int32).toInt64 &&& 63)), .ref 0], w)) rfl g2).trans <|
  (runs_stps (q' := (185, [.ref 400, .ref 0, .ref 34, .int x], [.int (x + 3), .ref 400, .long (((((((xs ((x + 1).toNatClampNeg))).toInt64)) <<< ((32 : Int32).toInt64 &&& 63))) ||| (((((xs ((x + 2).toNatClampNeg))).toInt64)) &&& 4294967295)), .ref 0], w)) 8 rfl).trans <|
  (runs_ck (q' := (186, [.ref 400, .ref 0, .ref 34, .int x], [.int (xs ((x + 3).toNatClampNeg)), .long (((((((xs ((x + 1).toNatClampNeg))).toInt64)) <<< ((32 : Int32).toInt64 &&& 63))) ||| (((((xs ((x + 2).toNatClampNeg))).toInt64)) &&& 4294967295)), .ref 0], w)) rfl g3).trans <|
  (runs_callV (rv := some (.int v)) (w' := w1) rfl rfl rfl rfl h1).trans <|
  (runs_stps (q' := (194, [.ref 400, .ref 0, .ref 34, .int x], [.int (x + 1), .ref 400, .ref 34, .int v], w1)) 5 rfl).trans <|
  (runs_ck (q' := (195, [.ref 400, .ref 0, .ref 34, .int x], [.int (xs ((x + 1).toNatClampNeg)), .ref 34, .int v], w1)) rfl g1).trans <|
  (runs_stps (q' := (203, [.ref 400, .ref 0, .ref 34, .int x], [.int (x + 2), .ref 400, .long (((((xs ((x + 1).toNatClampNeg))).toInt64)) <<< ((32 : Int32).toInt64 &&& 63)), .ref 34, .int v], w1)) 7 rfl).trans <|
  (runs_ck (q' := (204, [.ref 400, .ref 0, .ref 34, .int x], [.int (xs ((x + 2).toNatClampNeg)), .long (((((xs ((x + 1).toNatClampNeg))).toInt64)) <<< ((32 : Int32).toInt64 &&& 63)), .ref 34, .int v], w1)) rfl g2).trans <|
  (runs_stps (q' := (214, [.ref 400, .ref 0, .ref 34, .int x], [.int (x + 3), .ref 400, .long (((((((xs ((x + 1).toNatClampNeg))).toInt64)) <<< ((32 : Int32).toInt64 &&& 63))) ||| (((((xs ((x + 2).toNatClampNeg))).toInt64)) &&& 4294967295)), .ref 34, .int v], w1)) 8 rfl).trans <|
  (runs_ck (q' := (215, [.ref 400, .ref 0, .ref 34, .int x], [.int (xs ((x + 3).toNatClampNeg)), .long (((((((xs ((x + 1).toNatClampNeg))).toInt64)) <<< ((32 : Int32).toInt64 &&& 63))) ||| (((((xs ((x + 2).toNatClampNeg))).toInt64)) &&& 4294967295)), .ref 34, .int v], w1)) rfl g3).trans <|
  (runs_callV (rv := some (.int v)) (w' := w2) rfl rfl rfl rfl h2).trans <|
  (runs_if_t (a := 1008) (b := 221) (L := [.ref 400, .ref 0, .ref 34, .int x]) (st := []) (w := w2) rfl rfl).trans <|
  lw_next
set_option maxRecDepth 100000 in
theorem lw_1 {v : Int32}  (h1 : ex 103 [.ref 0] w = some (some (.int v), w1)) (h2 : ex 138 [.ref 34] w1 = some (some (.int v), w2)) : runs (T_law L xs ex) (223, [.ref 400, .ref 0, .ref 34, .int x], [], w) = runs (T_law L xs ex) (18, [.ref 400, .ref 0, .ref 34, .int (x + 7)], [], w2) :=
  (runs_stps (q' := (224, [.ref 400, .ref 0, .ref 34, .int x], [.ref 0], w)) 1 rfl).trans <|
  (runs_callV (rv := some (.int v)) (w' := w1) rfl rfl rfl rfl h1).trans <|
  (runs_stps (q' := (228, [.ref 400, .ref 0, .ref 34, .int x], [.ref 34, .int v], w1)) 1 rfl).trans <|
  (runs_callV (rv := some (.int v)) (w' := w2) rfl rfl rfl rfl h2).trans <|
  (runs_if_t (a := 1008) (b := 234) (L := [.ref 400, .ref 0, .ref 34, .int x]) (st := []) (w := w2) rfl rfl).trans <|
  lw_next
set_option maxRecDepth 100000 in
theorem lw_2 {v : Int32}  (h1 : ex 104 [.ref 0] w = some (some (.int v), w1)) (h2 : ex 149 [.ref 34] w1 = some (some (.int v), w2)) : runs (T_law L xs ex) (236, [.ref 400, .ref 0, .ref 34, .int x], [], w) = runs (T_law L xs ex) (18, [.ref 400, .ref 0, .ref 34, .int (x + 7)], [], w2) :=
  (runs_stps (q' := (237, [.ref 400, .ref 0, .ref 34, .int x], [.ref 0], w)) 1 rfl).trans <|
  (runs_callV (rv := some (.int v)) (w' := w1) rfl rfl rfl rfl h1).trans <|
  (runs_stps (q' := (241, [.ref 400, .ref 0, .ref 34, .int x], [.ref 34, .int v], w1)) 1 rfl).trans <|
  (runs_callV (rv := some (.int v)) (w' := w2) rfl rfl rfl rfl h2).trans <|
  (runs_if_t (a := 1008) (b := 247) (L := [.ref 400, .ref 0, .ref 34, .int x]) (st := []) (w := w2) rfl rfl).trans <|
  lw_next
set_option maxRecDepth 100000 in
theorem lw_3 {v : Int32} (g1 : ¬ (x + 1 < 0 ∨ L ≤ (x + 1).toNatClampNeg)) (g2 : ¬ (x + 2 < 0 ∨ L ≤ (x + 2).toNatClampNeg)) (h1 : ex 105 [.ref 0, .int (xs ((x + 1).toNatClampNeg)), .int (xs ((x + 2).toNatClampNeg))] w = some (some (.int v), w1)) (h2 : ex 154 [.ref 34, .int (xs ((x + 1).toNatClampNeg)), .int (xs ((x + 2).toNatClampNeg))] w1 = some (some (.int v), w2)) : runs (T_law L xs ex) (249, [.ref 400, .ref 0, .ref 34, .int x], [], w) = runs (T_law L xs ex) (18, [.ref 400, .ref 0, .ref 34, .int (x + 7)], [], w2) :=
  (runs_stps (q' := (254, [.ref 400, .ref 0, .ref 34, .int x], [.int (x + 1), .ref 400, .ref 0], w)) 5 rfl).trans <|
  (runs_ck (q' := (255, [.ref 400, .ref 0, .ref 34, .int x], [.int (xs ((x + 1).toNatClampNeg)), .ref 0], w)) rfl g1).trans <|
  (runs_stps (q' := (259, [.ref 400, .ref 0, .ref 34, .int x], [.int (x + 2), .ref 400, .int (xs ((x + 1).toNatClampNeg)), .ref 0], w)) 4 rfl).trans <|
  (runs_ck (q' := (260, [.ref 400, .ref 0, .ref 34, .int x], [.int (xs ((x + 2).toNatClampNeg)), .int (xs ((x + 1).toNatClampNeg)), .ref 0], w)) rfl g2).trans <|
  (runs_callV (rv := some (.int v)) (w' := w1) rfl rfl rfl rfl h1).trans <|
  (runs_stps (q' := (268, [.ref 400, .ref 0, .ref 34, .int x], [.int (x + 1), .ref 400, .ref 34, .int v], w1)) 5 rfl).trans <|
  (runs_ck (q' := (269, [.ref 400, .ref 0, .ref 34, .int x], [.int (xs ((x + 1).toNatClampNeg)), .ref 34, .int v], w1)) rfl g1).trans <|
  (runs_stps (q' := (273, [.ref 400, .ref 0, .ref 34, .int x], [.int (x + 2), .ref 400, .int (xs ((x + 1).toNatClampNeg)), .ref 34, .int v], w1)) 4 rfl).trans <|
  (runs_ck (q' := (274, [.ref 400, .ref 0, .ref 34, .int x], [.int (xs ((x + 2).toNatClampNeg)), .int (xs ((x + 1).toNatClampNeg)), .ref 34, .int v], w1)) rfl g2).trans <|
  (runs_callV (rv := some (.int v)) (w' := w2) rfl rfl rfl rfl h2).trans <|
  (runs_if_t (a := 1008) (b := 280) (L := [.ref 400, .ref 0, .ref 34, .int x]) (st := []) (w := w2) rfl rfl).trans <|
  lw_next
set_option maxRecDepth 100000 in
theorem lw_4 {v : Int32} (g1 : ¬ (x + 1 < 0 ∨ L ≤ (x + 1).toNatClampNeg)) (g2 : ¬ (x + 2 < 0 ∨ L ≤ (x + 2).toNatClampNeg)) (h1 : ex 106 [.ref 0, .int (xs ((x + 1).toNatClampNeg)), .int (xs ((x + 2).toNatClampNeg))] w = some (some (.int v), w1)) (h2 : ex 157 [.ref 34, .int (xs ((x + 1).toNatClampNeg)), .int (xs ((x + 2).toNatClampNeg))] w1 = some (some (.int v), w2)) : runs (T_law L xs ex) (282, [.ref 400, .ref 0, .ref 34, .int x], [], w) = runs (T_law L xs ex) (18, [.ref 400, .ref 0, .ref 34, .int (x + 7)], [], w2) :=
  (runs_stps (q' := (287, [.ref 400, .ref 0, .ref 34, .int x], [.int (x + 1), .ref 400, .ref 0], w)) 5 rfl).trans <|
  (runs_ck (q' := (288, [.ref 400, .ref 0, .ref 34, .int x], [.int (xs ((x + 1).toNatClampNeg)), .ref 0], w)) rfl g1).trans <|
  (runs_stps (q' := (292, [.ref 400, .ref 0, .ref 34, .int x], [.int (x + 2), .ref 400, .int (xs ((x + 1).toNatClampNeg)), .ref 0], w)) 4 rfl).trans <|
  (runs_ck (q' := (293, [.ref 400, .ref 0, .ref 34, .int x], [.int (xs ((x + 2).toNatClampNeg)), .int (xs ((x + 1).toNatClampNeg)), .ref 0], w)) rfl g2).trans <|
  (runs_callV (rv := some (.int v)) (w' := w1) rfl rfl rfl rfl h1).trans <|
  (runs_stps (q' := (301, [.ref 400, .ref 0, .ref 34, .int x], [.int (x + 1), .ref 400, .ref 34, .int v], w1)) 5 rfl).trans <|
  (runs_ck (q' := (302, [.ref 400, .ref 0, .ref 34, .int x], [.int (xs ((x + 1).toNatClampNeg)), .ref 34, .int v], w1)) rfl g1).trans <|
  (runs_stps (q' := (306, [.ref 400, .ref 0, .ref 34, .int x], [.int (x + 2), .ref 400, .int (xs ((x + 1).toNatClampNeg)), .ref 34, .int v], w1)) 4 rfl).trans <|
  (runs_ck (q' := (307, [.ref 400, .ref 0, .ref 34, .int x], [.int (xs ((x + 2).toNatClampNeg)), .int (xs ((x + 1).toNatClampNeg)), .ref 34, .int v], w1)) rfl g2).trans <|
  (runs_callV (rv := some (.int v)) (w' := w2) rfl rfl rfl rfl h2).trans <|
  (runs_if_t (a := 1008) (b := 313) (L := [.ref 400, .ref 0, .ref 34, .int x]) (st := []) (w := w2) rfl rfl).trans <|
  lw_next
set_option maxRecDepth 100000 in
theorem lw_5 {v : Int32} (g1 : ¬ (x + 1 < 0 ∨ L ≤ (x + 1).toNatClampNeg)) (g2 : ¬ (x + 2 < 0 ∨ L ≤ (x + 2).toNatClampNeg)) (h1 : ex 107 [.ref 0, .int (xs ((x + 1).toNatClampNeg)), .int (xs ((x + 2).toNatClampNeg))] w = some (some (.int v), w1)) (h2 : ex 159 [.ref 34, .int (xs ((x + 1).toNatClampNeg)), .int (xs ((x + 2).toNatClampNeg))] w1 = some (some (.int v), w2)) : runs (T_law L xs ex) (315, [.ref 400, .ref 0, .ref 34, .int x], [], w) = runs (T_law L xs ex) (18, [.ref 400, .ref 0, .ref 34, .int (x + 7)], [], w2) :=
  (runs_stps (q' := (320, [.ref 400, .ref 0, .ref 34, .int x], [.int (x + 1), .ref 400, .ref 0], w)) 5 rfl).trans <|
  (runs_ck (q' := (321, [.ref 400, .ref 0, .ref 34, .int x], [.int (xs ((x + 1).toNatClampNeg)), .ref 0], w)) rfl g1).trans <|
  (runs_stps (q' := (325, [.ref 400, .ref 0, .ref 34, .int x], [.int (x + 2), .ref 400, .int (xs ((x + 1).toNatClampNeg)), .ref 0], w)) 4 rfl).trans <|
  (runs_ck (q' := (326, [.ref 400, .ref 0, .ref 34, .int x], [.int (xs ((x + 2).toNatClampNeg)), .int (xs ((x + 1).toNatClampNeg)), .ref 0], w)) rfl g2).trans <|
  (runs_callV (rv := some (.int v)) (w' := w1) rfl rfl rfl rfl h1).trans <|
  (runs_stps (q' := (334, [.ref 400, .ref 0, .ref 34, .int x], [.int (x + 1), .ref 400, .ref 34, .int v], w1)) 5 rfl).trans <|
  (runs_ck (q' := (335, [.ref 400, .ref 0, .ref 34, .int x], [.int (xs ((x + 1).toNatClampNeg)), .ref 34, .int v], w1)) rfl g1).trans <|
  (runs_stps (q' := (339, [.ref 400, .ref 0, .ref 34, .int x], [.int (x + 2), .ref 400, .int (xs ((x + 1).toNatClampNeg)), .ref 34, .int v], w1)) 4 rfl).trans <|
  (runs_ck (q' := (340, [.ref 400, .ref 0, .ref 34, .int x], [.int (xs ((x + 2).toNatClampNeg)), .int (xs ((x + 1).toNatClampNeg)), .ref 34, .int v], w1)) rfl g2).trans <|
  (runs_callV (rv := some (.int v)) (w' := w2) rfl rfl rfl rfl h2).trans <|
  (runs_if_t (a := 1008) (b := 346) (L := [.ref 400, .ref 0, .ref 34, .int x]) (st := []) (w := w2) rfl rfl).trans <|
  lw_next
set_option maxRecDepth 100000 in
theorem lw_6 {v : Int32} (g1 : ¬ (x + 1 < 0 ∨ L ≤ (x + 1).toNatClampNeg)) (h1 : ex 108 [.ref 0, .int (xs ((x + 1).toNatClampNeg))] w = some (some (.int v), w1)) (h2 : ex 160 [.ref 34, .int (xs ((x + 1).toNatClampNeg))] w1 = some (some (.int v), w2)) : runs (T_law L xs ex) (348, [.ref 400, .ref 0, .ref 34, .int x], [], w) = runs (T_law L xs ex) (18, [.ref 400, .ref 0, .ref 34, .int (x + 7)], [], w2) :=
  (runs_stps (q' := (353, [.ref 400, .ref 0, .ref 34, .int x], [.int (x + 1), .ref 400, .ref 0], w)) 5 rfl).trans <|
  (runs_ck (q' := (354, [.ref 400, .ref 0, .ref 34, .int x], [.int (xs ((x + 1).toNatClampNeg)), .ref 0], w)) rfl g1).trans <|
  (runs_callV (rv := some (.int v)) (w' := w1) rfl rfl rfl rfl h1).trans <|
  (runs_stps (q' := (362, [.ref 400, .ref 0, .ref 34, .int x], [.int (x + 1), .ref 400, .ref 34, .int v], w1)) 5 rfl).trans <|
  (runs_ck (q' := (363, [.ref 400, .ref 0, .ref 34, .int x], [.int (xs ((x + 1).toNatClampNeg)), .ref 34, .int v], w1)) rfl g1).trans <|
  (runs_callV (rv := some (.int v)) (w' := w2) rfl rfl rfl rfl h2).trans <|
  (runs_if_t (a := 1008) (b := 369) (L := [.ref 400, .ref 0, .ref 34, .int x]) (st := []) (w := w2) rfl rfl).trans <|
  lw_next
set_option maxRecDepth 100000 in
theorem lw_7 {v : Int32} (g1 : ¬ (x + 1 < 0 ∨ L ≤ (x + 1).toNatClampNeg)) (g2 : ¬ (x + 2 < 0 ∨ L ≤ (x + 2).toNatClampNeg)) (g3 : ¬ (x + 3 < 0 ∨ L ≤ (x + 3).toNatClampNeg)) (h1 : ex 109 [.ref 0, .int (xs ((x + 1).toNatClampNeg)), .int (xs ((x + 2).toNatClampNeg)), .int (xs ((x + 3).toNatClampNeg))] w = some (some (.int v), w1)) (h2 : ex 163 [.ref 34, .int (xs ((x + 1).toNatClampNeg)), .int (xs ((x + 2).toNatClampNeg)), .int (xs ((x + 3).toNatClampNeg))] w1 = some (some (.int v), w2)) : runs (T_law L xs ex) (371, [.ref 400, .ref 0, .ref 34, .int x], [], w) = runs (T_law L xs ex) (18, [.ref 400, .ref 0, .ref 34, .int (x + 7)], [], w2) :=
  (runs_stps (q' := (376, [.ref 400, .ref 0, .ref 34, .int x], [.int (x + 1), .ref 400, .ref 0], w)) 5 rfl).trans <|
  (runs_ck (q' := (377, [.ref 400, .ref 0, .ref 34, .int x], [.int (xs ((x + 1).toNatClampNeg)), .ref 0], w)) rfl g1).trans <|
  (runs_stps (q' := (381, [.ref 400, .ref 0, .ref 34, .int x], [.int (x + 2), .ref 400, .int (xs ((x + 1).toNatClampNeg)), .ref 0], w)) 4 rfl).trans <|
  (runs_ck (q' := (382, [.ref 400, .ref 0, .ref 34, .int x], [.int (xs ((x + 2).toNatClampNeg)), .int (xs ((x + 1).toNatClampNeg)), .ref 0], w)) rfl g2).trans <|
  (runs_stps (q' := (386, [.ref 400, .ref 0, .ref 34, .int x], [.int (x + 3), .ref 400, .int (xs ((x + 2).toNatClampNeg)), .int (xs ((x + 1).toNatClampNeg)), .ref 0], w)) 4 rfl).trans <|
  (runs_ck (q' := (387, [.ref 400, .ref 0, .ref 34, .int x], [.int (xs ((x + 3).toNatClampNeg)), .int (xs ((x + 2).toNatClampNeg)), .int (xs ((x + 1).toNatClampNeg)), .ref 0], w)) rfl g3).trans <|
  (runs_callV (rv := some (.int v)) (w' := w1) rfl rfl rfl rfl h1).trans <|
  (runs_stps (q' := (395, [.ref 400, .ref 0, .ref 34, .int x], [.int (x + 1), .ref 400, .ref 34, .int v], w1)) 5 rfl).trans <|
  (runs_ck (q' := (396, [.ref 400, .ref 0, .ref 34, .int x], [.int (xs ((x + 1).toNatClampNeg)), .ref 34, .int v], w1)) rfl g1).trans <|
  (runs_stps (q' := (400, [.ref 400, .ref 0, .ref 34, .int x], [.int (x + 2), .ref 400, .int (xs ((x + 1).toNatClampNeg)), .ref 34, .int v], w1)) 4 rfl).trans <|
  (runs_ck (q' := (401, [.ref 400, .ref 0, .ref 34, .int x], [.int (xs ((x + 2).toNatClampNeg)), .int (xs ((x + 1).toNatClampNeg)), .ref 34, .int v], w1)) rfl g2).trans <|
  (runs_stps (q' := (405, [.ref 400, .ref 0, .ref 34, .int x], [.int (x + 3), .ref 400, .int (xs ((x + 2).toNatClampNeg)), .int (xs ((x + 1).toNatClampNeg)), .ref 34, .int v], w1)) 4 rfl).trans <|
  (runs_ck (q' := (406, [.ref 400, .ref 0, .ref 34, .int x], [.int (xs ((x + 3).toNatClampNeg)), .int (xs ((x + 2).toNatClampNeg)), .int (xs ((x + 1).toNatClampNeg)), .ref 34, .int v], w1)) rfl g3).trans <|
  (runs_callV (rv := some (.int v)) (w' := w2) rfl rfl rfl rfl h2).trans <|
  (runs_if_t (a := 1008) (b := 412) (L := [.ref 400, .ref 0, .ref 34, .int x]) (st := []) (w := w2) rfl rfl).trans <|
  lw_next
set_option maxRecDepth 100000 in
theorem lw_8 {v : Int32} (g1 : ¬ (x + 1 < 0 ∨ L ≤ (x + 1).toNatClampNeg)) (g2 : ¬ (x + 2 < 0 ∨ L ≤ (x + 2).toNatClampNeg)) (h1 : ex 110 [.ref 0, .int (xs ((x + 1).toNatClampNeg)), .int (xs ((x + 2).toNatClampNeg))] w = some (some (.int v), w1)) (h2 : ex 164 [.ref 34, .int (xs ((x + 1).toNatClampNeg)), .int (xs ((x + 2).toNatClampNeg))] w1 = some (some (.int v), w2)) : runs (T_law L xs ex) (414, [.ref 400, .ref 0, .ref 34, .int x], [], w) = runs (T_law L xs ex) (18, [.ref 400, .ref 0, .ref 34, .int (x + 7)], [], w2) :=
  (runs_stps (q' := (419, [.ref 400, .ref 0, .ref 34, .int x], [.int (x + 1), .ref 400, .ref 0], w)) 5 rfl).trans <|
  (runs_ck (q' := (420, [.ref 400, .ref 0, .ref 34, .int x], [.int (xs ((x + 1).toNatClampNeg)), .ref 0], w)) rfl g1).trans <|
  (runs_stps (q' := (424, [.ref 400, .ref 0, .ref 34, .int x], [.int (x + 2), .ref 400, .int (xs ((x + 1).toNatClampNeg)), .ref 0], w)) 4 rfl).trans <|
  (runs_ck (q' := (425, [.ref 400, .ref 0, .ref 34, .int x], [.int (xs ((x + 2).toNatClampNeg)), .int (xs ((x + 1).toNatClampNeg)), .ref 0], w)) rfl g2).trans <|
  (runs_callV (rv := some (.int v)) (w' := w1) rfl rfl rfl rfl h1).trans <|
  (runs_stps (q' := (433, [.ref 400, .ref 0, .ref 34, .int x], [.int (x + 1), .ref 400, .ref 34, .int v], w1)) 5 rfl).trans <|
  (runs_ck (q' := (434, [.ref 400, .ref 0, .ref 34, .int x], [.int (xs ((x + 1).toNatClampNeg)), .ref 34, .int v], w1)) rfl g1).trans <|
  (runs_stps (q' := (438, [.ref 400, .ref 0, .ref 34, .int x], [.int (x + 2), .ref 400, .int (xs ((x + 1).toNatClampNeg)), .ref 34, .int v], w1)) 4 rfl).trans <|
  (runs_ck (q' := (439, [.ref 400, .ref 0, .ref 34, .int x], [.int (xs ((x + 2).toNatClampNeg)), .int (xs ((x + 1).toNatClampNeg)), .ref 34, .int v], w1)) rfl g2).trans <|
  (runs_callV (rv := some (.int v)) (w' := w2) rfl rfl rfl rfl h2).trans <|
  (runs_if_t (a := 1008) (b := 445) (L := [.ref 400, .ref 0, .ref 34, .int x]) (st := []) (w := w2) rfl rfl).trans <|
  lw_next
set_option maxRecDepth 100000 in
theorem lw_9 {v : Int32} (g1 : ¬ (x + 1 < 0 ∨ L ≤ (x + 1).toNatClampNeg)) (g2 : ¬ (x + 2 < 0 ∨ L ≤ (x + 2).toNatClampNeg)) (h1 : ex 111 [.ref 0, .int (xs ((x + 1).toNatClampNeg)), .int (xs ((x + 2).toNatClampNeg))] w = some (some (.int v), w1)) (h2 : ex 166 [.ref 34, .int (xs ((x + 1).toNatClampNeg)), .int (xs ((x + 2).toNatClampNeg))] w1 = some (some (.int v), w2)) : runs (T_law L xs ex) (447, [.ref 400, .ref 0, .ref 34, .int x], [], w) = runs (T_law L xs ex) (18, [.ref 400, .ref 0, .ref 34, .int (x + 7)], [], w2) :=
  (runs_stps (q' := (452, [.ref 400, .ref 0, .ref 34, .int x], [.int (x + 1), .ref 400, .ref 0], w)) 5 rfl).trans <|
  (runs_ck (q' := (453, [.ref 400, .ref 0, .ref 34, .int x], [.int (xs ((x + 1).toNatClampNeg)), .ref 0], w)) rfl g1).trans <|
  (runs_stps (q' := (457, [.ref 400, .ref 0, .ref 34, .int x], [.int (x + 2), .ref 400, .int (xs ((x + 1).toNatClampNeg)), .ref 0], w)) 4 rfl).trans <|
  (runs_ck (q' := (458, [.ref 400, .ref 0, .ref 34, .int x], [.int (xs ((x + 2).toNatClampNeg)), .int (xs ((x + 1).toNatClampNeg)), .ref 0], w)) rfl g2).trans <|
  (runs_callV (rv := some (.int v)) (w' := w1) rfl rfl rfl rfl h1).trans <|
  (runs_stps (q' := (466, [.ref 400, .ref 0, .ref 34, .int x], [.int (x + 1), .ref 400, .ref 34, .int v], w1)) 5 rfl).trans <|
  (runs_ck (q' := (467, [.ref 400, .ref 0, .ref 34, .int x], [.int (xs ((x + 1).toNatClampNeg)), .ref 34, .int v], w1)) rfl g1).trans <|
  (runs_stps (q' := (471, [.ref 400, .ref 0, .ref 34, .int x], [.int (x + 2), .ref 400, .int (xs ((x + 1).toNatClampNeg)), .ref 34, .int v], w1)) 4 rfl).trans <|
  (runs_ck (q' := (472, [.ref 400, .ref 0, .ref 34, .int x], [.int (xs ((x + 2).toNatClampNeg)), .int (xs ((x + 1).toNatClampNeg)), .ref 34, .int v], w1)) rfl g2).trans <|
  (runs_callV (rv := some (.int v)) (w' := w2) rfl rfl rfl rfl h2).trans <|
  (runs_if_t (a := 1008) (b := 478) (L := [.ref 400, .ref 0, .ref 34, .int x]) (st := []) (w := w2) rfl rfl).trans <|
  lw_next
set_option maxRecDepth 100000 in
theorem lw_10 {v : Int32} (g1 : ¬ (x + 1 < 0 ∨ L ≤ (x + 1).toNatClampNeg)) (g2 : ¬ (x + 2 < 0 ∨ L ≤ (x + 2).toNatClampNeg)) (g3 : ¬ (x + 3 < 0 ∨ L ≤ (x + 3).toNatClampNeg)) (h1 : ex 112 [.ref 0, .int (xs ((x + 1).toNatClampNeg)), .int (xs ((x + 2).toNatClampNeg)), .int (xs ((x + 3).toNatClampNeg))] w = some (some (.int v), w1)) (h2 : ex 167 [.ref 34, .int (xs ((x + 1).toNatClampNeg)), .int (xs ((x + 2).toNatClampNeg)), .int (xs ((x + 3).toNatClampNeg))] w1 = some (some (.int v), w2)) : runs (T_law L xs ex) (480, [.ref 400, .ref 0, .ref 34, .int x], [], w) = runs (T_law L xs ex) (18, [.ref 400, .ref 0, .ref 34, .int (x + 7)], [], w2) :=
  (runs_stps (q' := (485, [.ref 400, .ref 0, .ref 34, .int x], [.int (x + 1), .ref 400, .ref 0], w)) 5 rfl).trans <|
  (runs_ck (q' := (486, [.ref 400, .ref 0, .ref 34, .int x], [.int (xs ((x + 1).toNatClampNeg)), .ref 0], w)) rfl g1).trans <|
  (runs_stps (q' := (490, [.ref 400, .ref 0, .ref 34, .int x], [.int (x + 2), .ref 400, .int (xs ((x + 1).toNatClampNeg)), .ref 0], w)) 4 rfl).trans <|
  (runs_ck (q' := (491, [.ref 400, .ref 0, .ref 34, .int x], [.int (xs ((x + 2).toNatClampNeg)), .int (xs ((x + 1).toNatClampNeg)), .ref 0], w)) rfl g2).trans <|
  (runs_stps (q' := (495, [.ref 400, .ref 0, .ref 34, .int x], [.int (x + 3), .ref 400, .int (xs ((x + 2).toNatClampNeg)), .int (xs ((x + 1).toNatClampNeg)), .ref 0], w)) 4 rfl).trans <|
  (runs_ck (q' := (496, [.ref 400, .ref 0, .ref 34, .int x], [.int (xs ((x + 3).toNatClampNeg)), .int (xs ((x + 2).toNatClampNeg)), .int (xs ((x + 1).toNatClampNeg)), .ref 0], w)) rfl g3).trans <|
  (runs_callV (rv := some (.int v)) (w' := w1) rfl rfl rfl rfl h1).trans <|
  (runs_stps (q' := (504, [.ref 400, .ref 0, .ref 34, .int x], [.int (x + 1), .ref 400, .ref 34, .int v], w1)) 5 rfl).trans <|
  (runs_ck (q' := (505, [.ref 400, .ref 0, .ref 34, .int x], [.int (xs ((x + 1).toNatClampNeg)), .ref 34, .int v], w1)) rfl g1).trans <|
  (runs_stps (q' := (509, [.ref 400, .ref 0, .ref 34, .int x], [.int (x + 2), .ref 400, .int (xs ((x + 1).toNatClampNeg)), .ref 34, .int v], w1)) 4 rfl).trans <|
  (runs_ck (q' := (510, [.ref 400, .ref 0, .ref 34, .int x], [.int (xs ((x + 2).toNatClampNeg)), .int (xs ((x + 1).toNatClampNeg)), .ref 34, .int v], w1)) rfl g2).trans <|
  (runs_stps (q' := (514, [.ref 400, .ref 0, .ref 34, .int x], [.int (x + 3), .ref 400, .int (xs ((x + 2).toNatClampNeg)), .int (xs ((x + 1).toNatClampNeg)), .ref 34, .int v], w1)) 4 rfl).trans <|
  (runs_ck (q' := (515, [.ref 400, .ref 0, .ref 34, .int x], [.int (xs ((x + 3).toNatClampNeg)), .int (xs ((x + 2).toNatClampNeg)), .int (xs ((x + 1).toNatClampNeg)), .ref 34, .int v], w1)) rfl g3).trans <|
  (runs_callV (rv := some (.int v)) (w' := w2) rfl rfl rfl rfl h2).trans <|
  (runs_if_t (a := 1008) (b := 521) (L := [.ref 400, .ref 0, .ref 34, .int x]) (st := []) (w := w2) rfl rfl).trans <|
  lw_next
set_option maxRecDepth 100000 in
theorem lw_11 {v : Int32}  (h1 : ex 113 [.ref 0] w = some (some (.int v), w1)) (h2 : ex 168 [.ref 34] w1 = some (some (.int v), w2)) : runs (T_law L xs ex) (523, [.ref 400, .ref 0, .ref 34, .int x], [], w) = runs (T_law L xs ex) (18, [.ref 400, .ref 0, .ref 34, .int (x + 7)], [], w2) :=
  (runs_stps (q' := (524, [.ref 400, .ref 0, .ref 34, .int x], [.ref 0], w)) 1 rfl).trans <|
  (runs_callV (rv := some (.int v)) (w' := w1) rfl rfl rfl rfl h1).trans <|
  (runs_stps (q' := (528, [.ref 400, .ref 0, .ref 34, .int x], [.ref 34, .int v], w1)) 1 rfl).trans <|
  (runs_callV (rv := some (.int v)) (w' := w2) rfl rfl rfl rfl h2).trans <|
  (runs_if_t (a := 1008) (b := 534) (L := [.ref 400, .ref 0, .ref 34, .int x]) (st := []) (w := w2) rfl rfl).trans <|
  lw_next
set_option maxRecDepth 100000 in
theorem lw_12 {v : Int32} (g1 : ¬ (x + 1 < 0 ∨ L ≤ (x + 1).toNatClampNeg)) (h1 : ex 114 [.ref 0, .int (xs ((x + 1).toNatClampNeg))] w = some (some (.int v), w1)) (h2 : ex 169 [.ref 34, .int (xs ((x + 1).toNatClampNeg))] w1 = some (some (.int v), w2)) : runs (T_law L xs ex) (536, [.ref 400, .ref 0, .ref 34, .int x], [], w) = runs (T_law L xs ex) (18, [.ref 400, .ref 0, .ref 34, .int (x + 7)], [], w2) :=
  (runs_stps (q' := (541, [.ref 400, .ref 0, .ref 34, .int x], [.int (x + 1), .ref 400, .ref 0], w)) 5 rfl).trans <|
  (runs_ck (q' := (542, [.ref 400, .ref 0, .ref 34, .int x], [.int (xs ((x + 1).toNatClampNeg)), .ref 0], w)) rfl g1).trans <|
  (runs_callV (rv := some (.int v)) (w' := w1) rfl rfl rfl rfl h1).trans <|
  (runs_stps (q' := (550, [.ref 400, .ref 0, .ref 34, .int x], [.int (x + 1), .ref 400, .ref 34, .int v], w1)) 5 rfl).trans <|
  (runs_ck (q' := (551, [.ref 400, .ref 0, .ref 34, .int x], [.int (xs ((x + 1).toNatClampNeg)), .ref 34, .int v], w1)) rfl g1).trans <|
  (runs_callV (rv := some (.int v)) (w' := w2) rfl rfl rfl rfl h2).trans <|
  (runs_if_t (a := 1008) (b := 557) (L := [.ref 400, .ref 0, .ref 34, .int x]) (st := []) (w := w2) rfl rfl).trans <|
  lw_next
set_option maxRecDepth 100000 in
theorem lw_13 {v : Int32} (g1 : ¬ (x + 1 < 0 ∨ L ≤ (x + 1).toNatClampNeg)) (g2 : ¬ (x + 2 < 0 ∨ L ≤ (x + 2).toNatClampNeg)) (g3 : ¬ (x + 3 < 0 ∨ L ≤ (x + 3).toNatClampNeg)) (g4 : ¬ (x + 4 < 0 ∨ L ≤ (x + 4).toNatClampNeg)) (h1 : ex 115 [.ref 0, .int (xs ((x + 1).toNatClampNeg)), .int (xs ((x + 2).toNatClampNeg)), .int (xs ((x + 3).toNatClampNeg)), .int (xs ((x + 4).toNatClampNeg))] w = some (some (.int v), w1)) (h2 : ex 176 [.ref 34, .int (xs ((x + 1).toNatClampNeg)), .int (xs ((x + 2).toNatClampNeg)), .int (xs ((x + 3).toNatClampNeg)), .int (xs ((x + 4).toNatClampNeg))] w1 = some (some (.int v), w2)) : runs (T_law L xs ex) (559, [.ref 400, .ref 0, .ref 34, .int x], [], w) = runs (T_law L xs ex) (18, [.ref 400, .ref 0, .ref 34, .int (x + 7)], [], w2) :=
  (runs_stps (q' := (564, [.ref 400, .ref 0, .ref 34, .int x], [.int (x + 1), .ref 400, .ref 0], w)) 5 rfl).trans <|
  (runs_ck (q' := (565, [.ref 400, .ref 0, .ref 34, .int x], [.int (xs ((x + 1).toNatClampNeg)), .ref 0], w)) rfl g1).trans <|
  (runs_stps (q' := (569, [.ref 400, .ref 0, .ref 34, .int x], [.int (x + 2), .ref 400, .int (xs ((x + 1).toNatClampNeg)), .ref 0], w)) 4 rfl).trans <|
  (runs_ck (q' := (570, [.ref 400, .ref 0, .ref 34, .int x], [.int (xs ((x + 2).toNatClampNeg)), .int (xs ((x + 1).toNatClampNeg)), .ref 0], w)) rfl g2).trans <|
  (runs_stps (q' := (574, [.ref 400, .ref 0, .ref 34, .int x], [.int (x + 3), .ref 400, .int (xs ((x + 2).toNatClampNeg)), .int (xs ((x + 1).toNatClampNeg)), .ref 0], w)) 4 rfl).trans <|
  (runs_ck (q' := (575, [.ref 400, .ref 0, .ref 34, .int x], [.int (xs ((x + 3).toNatClampNeg)), .int (xs ((x + 2).toNatClampNeg)), .int (xs ((x + 1).toNatClampNeg)), .ref 0], w)) rfl g3).trans <|
  (runs_stps (q' := (579, [.ref 400, .ref 0, .ref 34, .int x], [.int (x + 4), .ref 400, .int (xs ((x + 3).toNatClampNeg)), .int (xs ((x + 2).toNatClampNeg)), .int (xs ((x + 1).toNatClampNeg)), .ref 0], w)) 4 rfl).trans <|
  (runs_ck (q' := (580, [.ref 400, .ref 0, .ref 34, .int x], [.int (xs ((x + 4).toNatClampNeg)), .int (xs ((x + 3).toNatClampNeg)), .int (xs ((x + 2).toNatClampNeg)), .int (xs ((x + 1).toNatClampNeg)), .ref 0], w)) rfl g4).trans <|
  (runs_callV (rv := some (.int v)) (w' := w1) rfl rfl rfl rfl h1).trans <|
  (runs_stps (q' := (588, [.ref 400, .ref 0, .ref 34, .int x], [.int (x + 1), .ref 400, .ref 34, .int v], w1)) 5 rfl).trans <|
  (runs_ck (q' := (589, [.ref 400, .ref 0, .ref 34, .int x], [.int (xs ((x + 1).toNatClampNeg)), .ref 34, .int v], w1)) rfl g1).trans <|
  (runs_stps (q' := (593, [.ref 400, .ref 0, .ref 34, .int x], [.int (x + 2), .ref 400, .int (xs ((x + 1).toNatClampNeg)), .ref 34, .int v], w1)) 4 rfl).trans <|
  (runs_ck (q' := (594, [.ref 400, .ref 0, .ref 34, .int x], [.int (xs ((x + 2).toNatClampNeg)), .int (xs ((x + 1).toNatClampNeg)), .ref 34, .int v], w1)) rfl g2).trans <|
  (runs_stps (q' := (598, [.ref 400, .ref 0, .ref 34, .int x], [.int (x + 3), .ref 400, .int (xs ((x + 2).toNatClampNeg)), .int (xs ((x + 1).toNatClampNeg)), .ref 34, .int v], w1)) 4 rfl).trans <|
  (runs_ck (q' := (599, [.ref 400, .ref 0, .ref 34, .int x], [.int (xs ((x + 3).toNatClampNeg)), .int (xs ((x + 2).toNatClampNeg)), .int (xs ((x + 1).toNatClampNeg)), .ref 34, .int v], w1)) rfl g3).trans <|
  (runs_stps (q' := (603, [.ref 400, .ref 0, .ref 34, .int x], [.int (x + 4), .ref 400, .int (xs ((x + 3).toNatClampNeg)), .int (xs ((x + 2).toNatClampNeg)), .int (xs ((x + 1).toNatClampNeg)), .ref 34, .int v], w1)) 4 rfl).trans <|
  (runs_ck (q' := (604, [.ref 400, .ref 0, .ref 34, .int x], [.int (xs ((x + 4).toNatClampNeg)), .int (xs ((x + 3).toNatClampNeg)), .int (xs ((x + 2).toNatClampNeg)), .int (xs ((x + 1).toNatClampNeg)), .ref 34, .int v], w1)) rfl g4).trans <|
  (runs_callV (rv := some (.int v)) (w' := w2) rfl rfl rfl rfl h2).trans <|
  (runs_if_t (a := 1008) (b := 610) (L := [.ref 400, .ref 0, .ref 34, .int x]) (st := []) (w := w2) rfl rfl).trans <|
  lw_next
set_option maxRecDepth 100000 in
theorem lw_14 {v : Int32} (g1 : ¬ (x + 1 < 0 ∨ L ≤ (x + 1).toNatClampNeg)) (g2 : ¬ (x + 2 < 0 ∨ L ≤ (x + 2).toNatClampNeg)) (h1 : ex 116 [.ref 0, .int (xs ((x + 1).toNatClampNeg)), .int (xs ((x + 2).toNatClampNeg))] w = some (some (.int v), w1)) (h2 : ex 177 [.ref 34, .int (xs ((x + 1).toNatClampNeg)), .int (xs ((x + 2).toNatClampNeg))] w1 = some (some (.int v), w2)) : runs (T_law L xs ex) (612, [.ref 400, .ref 0, .ref 34, .int x], [], w) = runs (T_law L xs ex) (18, [.ref 400, .ref 0, .ref 34, .int (x + 7)], [], w2) :=
  (runs_stps (q' := (617, [.ref 400, .ref 0, .ref 34, .int x], [.int (x + 1), .ref 400, .ref 0], w)) 5 rfl).trans <|
  (runs_ck (q' := (618, [.ref 400, .ref 0, .ref 34, .int x], [.int (xs ((x + 1).toNatClampNeg)), .ref 0], w)) rfl g1).trans <|
  (runs_stps (q' := (622, [.ref 400, .ref 0, .ref 34, .int x], [.int (x + 2), .ref 400, .int (xs ((x + 1).toNatClampNeg)), .ref 0], w)) 4 rfl).trans <|
  (runs_ck (q' := (623, [.ref 400, .ref 0, .ref 34, .int x], [.int (xs ((x + 2).toNatClampNeg)), .int (xs ((x + 1).toNatClampNeg)), .ref 0], w)) rfl g2).trans <|
  (runs_callV (rv := some (.int v)) (w' := w1) rfl rfl rfl rfl h1).trans <|
  (runs_stps (q' := (631, [.ref 400, .ref 0, .ref 34, .int x], [.int (x + 1), .ref 400, .ref 34, .int v], w1)) 5 rfl).trans <|
  (runs_ck (q' := (632, [.ref 400, .ref 0, .ref 34, .int x], [.int (xs ((x + 1).toNatClampNeg)), .ref 34, .int v], w1)) rfl g1).trans <|
  (runs_stps (q' := (636, [.ref 400, .ref 0, .ref 34, .int x], [.int (x + 2), .ref 400, .int (xs ((x + 1).toNatClampNeg)), .ref 34, .int v], w1)) 4 rfl).trans <|
  (runs_ck (q' := (637, [.ref 400, .ref 0, .ref 34, .int x], [.int (xs ((x + 2).toNatClampNeg)), .int (xs ((x + 1).toNatClampNeg)), .ref 34, .int v], w1)) rfl g2).trans <|
  (runs_callV (rv := some (.int v)) (w' := w2) rfl rfl rfl rfl h2).trans <|
  (runs_if_t (a := 1008) (b := 643) (L := [.ref 400, .ref 0, .ref 34, .int x]) (st := []) (w := w2) rfl rfl).trans <|
  lw_next
set_option maxRecDepth 100000 in
theorem lw_15 {v : Int32} (g1 : ¬ (x + 1 < 0 ∨ L ≤ (x + 1).toNatClampNeg)) (g2 : ¬ (x + 2 < 0 ∨ L ≤ (x + 2).toNatClampNeg)) (h1 : ex 117 [.ref 0, .int (xs ((x + 1).toNatClampNeg)), .int (xs ((x + 2).toNatClampNeg))] w = some (some (.int v), w1)) (h2 : ex 179 [.ref 34, .int (xs ((x + 1).toNatClampNeg)), .int (xs ((x + 2).toNatClampNeg))] w1 = some (some (.int v), w2)) : runs (T_law L xs ex) (645, [.ref 400, .ref 0, .ref 34, .int x], [], w) = runs (T_law L xs ex) (18, [.ref 400, .ref 0, .ref 34, .int (x + 7)], [], w2) :=
  (runs_stps (q' := (650, [.ref 400, .ref 0, .ref 34, .int x], [.int (x + 1), .ref 400, .ref 0], w)) 5 rfl).trans <|
  (runs_ck (q' := (651, [.ref 400, .ref 0, .ref 34, .int x], [.int (xs ((x + 1).toNatClampNeg)), .ref 0], w)) rfl g1).trans <|
  (runs_stps (q' := (655, [.ref 400, .ref 0, .ref 34, .int x], [.int (x + 2), .ref 400, .int (xs ((x + 1).toNatClampNeg)), .ref 0], w)) 4 rfl).trans <|
  (runs_ck (q' := (656, [.ref 400, .ref 0, .ref 34, .int x], [.int (xs ((x + 2).toNatClampNeg)), .int (xs ((x + 1).toNatClampNeg)), .ref 0], w)) rfl g2).trans <|
  (runs_callV (rv := some (.int v)) (w' := w1) rfl rfl rfl rfl h1).trans <|
  (runs_stps (q' := (664, [.ref 400, .ref 0, .ref 34, .int x], [.int (x + 1), .ref 400, .ref 34, .int v], w1)) 5 rfl).trans <|
  (runs_ck (q' := (665, [.ref 400, .ref 0, .ref 34, .int x], [.int (xs ((x + 1).toNatClampNeg)), .ref 34, .int v], w1)) rfl g1).trans <|
  (runs_stps (q' := (669, [.ref 400, .ref 0, .ref 34, .int x], [.int (x + 2), .ref 400, .int (xs ((x + 1).toNatClampNeg)), .ref 34, .int v], w1)) 4 rfl).trans <|
  (runs_ck (q' := (670, [.ref 400, .ref 0, .ref 34, .int x], [.int (xs ((x + 2).toNatClampNeg)), .int (xs ((x + 1).toNatClampNeg)), .ref 34, .int v], w1)) rfl g2).trans <|
  (runs_callV (rv := some (.int v)) (w' := w2) rfl rfl rfl rfl h2).trans <|
  (runs_if_t (a := 1008) (b := 676) (L := [.ref 400, .ref 0, .ref 34, .int x]) (st := []) (w := w2) rfl rfl).trans <|
  lw_next
set_option maxRecDepth 100000 in
theorem lw_16 {v : Int32} (g1 : ¬ (x + 1 < 0 ∨ L ≤ (x + 1).toNatClampNeg)) (g2 : ¬ (x + 2 < 0 ∨ L ≤ (x + 2).toNatClampNeg)) (h1 : ex 118 [.ref 0, .int (xs ((x + 1).toNatClampNeg)), .int (xs ((x + 2).toNatClampNeg))] w = some (some (.int v), w1)) (h2 : ex 180 [.ref 34, .int (xs ((x + 1).toNatClampNeg)), .int (xs ((x + 2).toNatClampNeg))] w1 = some (some (.int v), w2)) : runs (T_law L xs ex) (678, [.ref 400, .ref 0, .ref 34, .int x], [], w) = runs (T_law L xs ex) (18, [.ref 400, .ref 0, .ref 34, .int (x + 7)], [], w2) :=
  (runs_stps (q' := (683, [.ref 400, .ref 0, .ref 34, .int x], [.int (x + 1), .ref 400, .ref 0], w)) 5 rfl).trans <|
  (runs_ck (q' := (684, [.ref 400, .ref 0, .ref 34, .int x], [.int (xs ((x + 1).toNatClampNeg)), .ref 0], w)) rfl g1).trans <|
  (runs_stps (q' := (688, [.ref 400, .ref 0, .ref 34, .int x], [.int (x + 2), .ref 400, .int (xs ((x + 1).toNatClampNeg)), .ref 0], w)) 4 rfl).trans <|
  (runs_ck (q' := (689, [.ref 400, .ref 0, .ref 34, .int x], [.int (xs ((x + 2).toNatClampNeg)), .int (xs ((x + 1).toNatClampNeg)), .ref 0], w)) rfl g2).trans <|
  (runs_callV (rv := some (.int v)) (w' := w1) rfl rfl rfl rfl h1).trans <|
  (runs_stps (q' := (697, [.ref 400, .ref 0, .ref 34, .int x], [.int (x + 1), .ref 400, .ref 34, .int v], w1)) 5 rfl).trans <|
  (runs_ck (q' := (698, [.ref 400, .ref 0, .ref 34, .int x], [.int (xs ((x + 1).toNatClampNeg)), .ref 34, .int v], w1)) rfl g1).trans <|
  (runs_stps (q' := (702, [.ref 400, .ref 0, .ref 34, .int x], [.int (x + 2), .ref 400, .int (xs ((x + 1).toNatClampNeg)), .ref 34, .int v], w1)) 4 rfl).trans <|
  (runs_ck (q' := (703, [.ref 400, .ref 0, .ref 34, .int x], [.int (xs ((x + 2).toNatClampNeg)), .int (xs ((x + 1).toNatClampNeg)), .ref 34, .int v], w1)) rfl g2).trans <|
  (runs_callV (rv := some (.int v)) (w' := w2) rfl rfl rfl rfl h2).trans <|
  (runs_if_t (a := 1008) (b := 709) (L := [.ref 400, .ref 0, .ref 34, .int x]) (st := []) (w := w2) rfl rfl).trans <|
  lw_next
set_option maxRecDepth 100000 in
theorem lw_17 {v : Int32}  (h1 : ex 119 [.ref 0] w = some (some (.int v), w1)) (h2 : ex 181 [.ref 34] w1 = some (some (.int v), w2)) : runs (T_law L xs ex) (711, [.ref 400, .ref 0, .ref 34, .int x], [], w) = runs (T_law L xs ex) (18, [.ref 400, .ref 0, .ref 34, .int (x + 7)], [], w2) :=
  (runs_stps (q' := (712, [.ref 400, .ref 0, .ref 34, .int x], [.ref 0], w)) 1 rfl).trans <|
  (runs_callV (rv := some (.int v)) (w' := w1) rfl rfl rfl rfl h1).trans <|
  (runs_stps (q' := (716, [.ref 400, .ref 0, .ref 34, .int x], [.ref 34, .int v], w1)) 1 rfl).trans <|
  (runs_callV (rv := some (.int v)) (w' := w2) rfl rfl rfl rfl h2).trans <|
  (runs_if_t (a := 1008) (b := 722) (L := [.ref 400, .ref 0, .ref 34, .int x]) (st := []) (w := w2) rfl rfl).trans <|
  lw_next
set_option maxRecDepth 100000 in
theorem lw_18 {v : Int32}  (h1 : ex 120 [.ref 0] w = some (some (.int v), w1)) (h2 : ex 184 [.ref 34] w1 = some (some (.int v), w2)) : runs (T_law L xs ex) (724, [.ref 400, .ref 0, .ref 34, .int x], [], w) = runs (T_law L xs ex) (18, [.ref 400, .ref 0, .ref 34, .int (x + 7)], [], w2) :=
  (runs_stps (q' := (725, [.ref 400, .ref 0, .ref 34, .int x], [.ref 0], w)) 1 rfl).trans <|
  (runs_callV (rv := some (.int v)) (w' := w1) rfl rfl rfl rfl h1).trans <|
  (runs_stps (q' := (729, [.ref 400, .ref 0, .ref 34, .int x], [.ref 34, .int v], w1)) 1 rfl).trans <|
  (runs_callV (rv := some (.int v)) (w' := w2) rfl rfl rfl rfl h2).trans <|
  (runs_if_t (a := 1008) (b := 735) (L := [.ref 400, .ref 0, .ref 34, .int x]) (st := []) (w := w2) rfl rfl).trans <|
  lw_next
set_option maxRecDepth 100000 in
theorem lw_19 {v : Int32} (g1 : ¬ (x + 1 < 0 ∨ L ≤ (x + 1).toNatClampNeg)) (h1 : ex 121 [.ref 0, .int (xs ((x + 1).toNatClampNeg))] w = some (some (.int v), w1)) (h2 : ex 185 [.ref 34, .int (xs ((x + 1).toNatClampNeg))] w1 = some (some (.int v), w2)) : runs (T_law L xs ex) (737, [.ref 400, .ref 0, .ref 34, .int x], [], w) = runs (T_law L xs ex) (18, [.ref 400, .ref 0, .ref 34, .int (x + 7)], [], w2) :=
  (runs_stps (q' := (742, [.ref 400, .ref 0, .ref 34, .int x], [.int (x + 1), .ref 400, .ref 0], w)) 5 rfl).trans <|
  (runs_ck (q' := (743, [.ref 400, .ref 0, .ref 34, .int x], [.int (xs ((x + 1).toNatClampNeg)), .ref 0], w)) rfl g1).trans <|
  (runs_callV (rv := some (.int v)) (w' := w1) rfl rfl rfl rfl h1).trans <|
  (runs_stps (q' := (751, [.ref 400, .ref 0, .ref 34, .int x], [.int (x + 1), .ref 400, .ref 34, .int v], w1)) 5 rfl).trans <|
  (runs_ck (q' := (752, [.ref 400, .ref 0, .ref 34, .int x], [.int (xs ((x + 1).toNatClampNeg)), .ref 34, .int v], w1)) rfl g1).trans <|
  (runs_callV (rv := some (.int v)) (w' := w2) rfl rfl rfl rfl h2).trans <|
  (runs_if_t (a := 1008) (b := 758) (L := [.ref 400, .ref 0, .ref 34, .int x]) (st := []) (w := w2) rfl rfl).trans <|
  lw_next
set_option maxRecDepth 100000 in
theorem lw_20 {v : Int32}  (h1 : ex 122 [.ref 0] w = some (some (.int v), w1)) (h2 : ex 187 [.ref 34] w1 = some (some (.int v), w2)) : runs (T_law L xs ex) (760, [.ref 400, .ref 0, .ref 34, .int x], [], w) = runs (T_law L xs ex) (18, [.ref 400, .ref 0, .ref 34, .int (x + 7)], [], w2) :=
  (runs_stps (q' := (761, [.ref 400, .ref 0, .ref 34, .int x], [.ref 0], w)) 1 rfl).trans <|
  (runs_callV (rv := some (.int v)) (w' := w1) rfl rfl rfl rfl h1).trans <|
  (runs_stps (q' := (765, [.ref 400, .ref 0, .ref 34, .int x], [.ref 34, .int v], w1)) 1 rfl).trans <|
  (runs_callV (rv := some (.int v)) (w' := w2) rfl rfl rfl rfl h2).trans <|
  (runs_if_t (a := 1008) (b := 771) (L := [.ref 400, .ref 0, .ref 34, .int x]) (st := []) (w := w2) rfl rfl).trans <|
  lw_next
set_option maxRecDepth 100000 in
theorem lw_21 {v : Int32} (g1 : ¬ (x + 1 < 0 ∨ L ≤ (x + 1).toNatClampNeg)) (g2 : ¬ (x + 2 < 0 ∨ L ≤ (x + 2).toNatClampNeg)) (g3 : ¬ (x + 3 < 0 ∨ L ≤ (x + 3).toNatClampNeg)) (g4 : ¬ (x + 4 < 0 ∨ L ≤ (x + 4).toNatClampNeg)) (g5 : ¬ (x + 5 < 0 ∨ L ≤ (x + 5).toNatClampNeg)) (g6 : ¬ (x + 6 < 0 ∨ L ≤ (x + 6).toNatClampNeg)) (h1 : ex 123 [.ref 0, .int (xs ((x + 1).toNatClampNeg)), .int (xs ((x + 2).toNatClampNeg)), .int (xs ((x + 3).toNatClampNeg)), .int (xs ((x + 4).toNatClampNeg)), .int (xs ((x + 5).toNatClampNeg)), .int (xs ((x + 6).toNatClampNeg))] w = some (some (.int v), w1)) (h2 : ex 190 [.ref 34, .int (xs ((x + 1).toNatClampNeg)), .int (xs ((x + 2).toNatClampNeg)), .int (xs ((x + 3).toNatClampNeg)), .int (xs ((x + 4).toNatClampNeg)), .int (xs ((x + 5).toNatClampNeg)), .int (xs ((x + 6).toNatClampNeg))] w1 = some (some (.int v), w2)) : runs (T_law L xs ex) (773, [.ref 400, .ref 0, .ref 34, .int x], [], w) = runs (T_law L xs ex) (18, [.ref 400, .ref 0, .ref 34, .int (x + 7)], [], w2) :=
  (runs_stps (q' := (778, [.ref 400, .ref 0, .ref 34, .int x], [.int (x + 1), .ref 400, .ref 0], w)) 5 rfl).trans <|
  (runs_ck (q' := (779, [.ref 400, .ref 0, .ref 34, .int x], [.int (xs ((x + 1).toNatClampNeg)), .ref 0], w)) rfl g1).trans <|
  (runs_stps (q' := (783, [.ref 400, .ref 0, .ref 34, .int x], [.int (x + 2), .ref 400, .int (xs ((x + 1).toNatClampNeg)), .ref 0], w)) 4 rfl).trans <|
  (runs_ck (q' := (784, [.ref 400, .ref 0, .ref 34, .int x], [.int (xs ((x + 2).toNatClampNeg)), .int (xs ((x + 1).toNatClampNeg)), .ref 0], w)) rfl g2).trans <|
  (runs_stps (q' := (788, [.ref 400, .ref 0, .ref 34, .int x], [.int (x + 3), .ref 400, .int (xs ((x + 2).toNatClampNeg)), .int (xs ((x + 1).toNatClampNeg)), .ref 0], w)) 4 rfl).trans <|
  (runs_ck (q' := (789, [.ref 400, .ref 0, .ref 34, .int x], [.int (xs ((x + 3).toNatClampNeg)), .int (xs ((x + 2).toNatClampNeg)), .int (xs ((x + 1).toNatClampNeg)), .ref 0], w)) rfl g3).trans <|
  (runs_stps (q' := (793, [.ref 400, .ref 0, .ref 34, .int x], [.int (x + 4), .ref 400, .int (xs ((x + 3).toNatClampNeg)), .int (xs ((x + 2).toNatClampNeg)), .int (xs ((x + 1).toNatClampNeg)), .ref 0], w)) 4 rfl).trans <|
  (runs_ck (q' := (794, [.ref 400, .ref 0, .ref 34, .int x], [.int (xs ((x + 4).toNatClampNeg)), .int (xs ((x + 3).toNatClampNeg)), .int (xs ((x + 2).toNatClampNeg)), .int (xs ((x + 1).toNatClampNeg)), .ref 0], w)) rfl g4).trans <|
  (runs_stps (q' := (798, [.ref 400, .ref 0, .ref 34, .int x], [.int (x + 5), .ref 400, .int (xs ((x + 4).toNatClampNeg)), .int (xs ((x + 3).toNatClampNeg)), .int (xs ((x + 2).toNatClampNeg)), .int (xs ((x + 1).toNatClampNeg)), .ref 0], w)) 4 rfl).trans <|
  (runs_ck (q' := (799, [.ref 400, .ref 0, .ref 34, .int x], [.int (xs ((x + 5).toNatClampNeg)), .int (xs ((x + 4).toNatClampNeg)), .int (xs ((x + 3).toNatClampNeg)), .int (xs ((x + 2).toNatClampNeg)), .int (xs ((x + 1).toNatClampNeg)), .ref 0], w)) rfl g5).trans <|
  (runs_stps (q' := (804, [.ref 400, .ref 0, .ref 34, .int x], [.int (x + 6), .ref 400, .int (xs ((x + 5).toNatClampNeg)), .int (xs ((x + 4).toNatClampNeg)), .int (xs ((x + 3).toNatClampNeg)), .int (xs ((x + 2).toNatClampNeg)), .int (xs ((x + 1).toNatClampNeg)), .ref 0], w)) 4 rfl).trans <|
  (runs_ck (q' := (805, [.ref 400, .ref 0, .ref 34, .int x], [.int (xs ((x + 6).toNatClampNeg)), .int (xs ((x + 5).toNatClampNeg)), .int (xs ((x + 4).toNatClampNeg)), .int (xs ((x + 3).toNatClampNeg)), .int (xs ((x + 2).toNatClampNeg)), .int (xs ((x + 1).toNatClampNeg)), .ref 0], w)) rfl g6).trans <|
  (runs_callV (rv := some (.int v)) (w' := w1) rfl rfl rfl rfl h1).trans <|
  (runs_stps (q' := (813, [.ref 400, .ref 0, .ref 34, .int x], [.int (x + 1), .ref 400, .ref 34, .int v], w1)) 5 rfl).trans <|
  (runs_ck (q' := (814, [.ref 400, .ref 0, .ref 34, .int x], [.int (xs ((x + 1).toNatClampNeg)), .ref 34, .int v], w1)) rfl g1).trans <|
  (runs_stps (q' := (818, [.ref 400, .ref 0, .ref 34, .int x], [.int (x + 2), .ref 400, .int (xs ((x + 1).toNatClampNeg)), .ref 34, .int v], w1)) 4 rfl).trans <|
  (runs_ck (q' := (819, [.ref 400, .ref 0, .ref 34, .int x], [.int (xs ((x + 2).toNatClampNeg)), .int (xs ((x + 1).toNatClampNeg)), .ref 34, .int v], w1)) rfl g2).trans <|
  (runs_stps (q' := (823, [.ref 400, .ref 0, .ref 34, .int x], [.int (x + 3), .ref 400, .int (xs ((x + 2).toNatClampNeg)), .int (xs ((x + 1).toNatClampNeg)), .ref 34, .int v], w1)) 4 rfl).trans <|
  (runs_ck (q' := (824, [.ref 400, .ref 0, .ref 34, .int x], [.int (xs ((x + 3).toNatClampNeg)), .int (xs ((x + 2).toNatClampNeg)), .int (xs ((x + 1).toNatClampNeg)), .ref 34, .int v], w1)) rfl g3).trans <|
  (runs_stps (q' := (828, [.ref 400, .ref 0, .ref 34, .int x], [.int (x + 4), .ref 400, .int (xs ((x + 3).toNatClampNeg)), .int (xs ((x + 2).toNatClampNeg)), .int (xs ((x + 1).toNatClampNeg)), .ref 34, .int v], w1)) 4 rfl).trans <|
  (runs_ck (q' := (829, [.ref 400, .ref 0, .ref 34, .int x], [.int (xs ((x + 4).toNatClampNeg)), .int (xs ((x + 3).toNatClampNeg)), .int (xs ((x + 2).toNatClampNeg)), .int (xs ((x + 1).toNatClampNeg)), .ref 34, .int v], w1)) rfl g4).trans <|
  (runs_stps (q' := (833, [.ref 400, .ref 0, .ref 34, .int x], [.int (x + 5), .ref 400, .int (xs ((x + 4).toNatClampNeg)), .int (xs ((x + 3).toNatClampNeg)), .int (xs ((x + 2).toNatClampNeg)), .int (xs ((x + 1).toNatClampNeg)), .ref 34, .int v], w1)) 4 rfl).trans <|
  (runs_ck (q' := (834, [.ref 400, .ref 0, .ref 34, .int x], [.int (xs ((x + 5).toNatClampNeg)), .int (xs ((x + 4).toNatClampNeg)), .int (xs ((x + 3).toNatClampNeg)), .int (xs ((x + 2).toNatClampNeg)), .int (xs ((x + 1).toNatClampNeg)), .ref 34, .int v], w1)) rfl g5).trans <|
  (runs_stps (q' := (839, [.ref 400, .ref 0, .ref 34, .int x], [.int (x + 6), .ref 400, .int (xs ((x + 5).toNatClampNeg)), .int (xs ((x + 4).toNatClampNeg)), .int (xs ((x + 3).toNatClampNeg)), .int (xs ((x + 2).toNatClampNeg)), .int (xs ((x + 1).toNatClampNeg)), .ref 34, .int v], w1)) 4 rfl).trans <|
  (runs_ck (q' := (840, [.ref 400, .ref 0, .ref 34, .int x], [.int (xs ((x + 6).toNatClampNeg)), .int (xs ((x + 5).toNatClampNeg)), .int (xs ((x + 4).toNatClampNeg)), .int (xs ((x + 3).toNatClampNeg)), .int (xs ((x + 2).toNatClampNeg)), .int (xs ((x + 1).toNatClampNeg)), .ref 34, .int v], w1)) rfl g6).trans <|
  (runs_callV (rv := some (.int v)) (w' := w2) rfl rfl rfl rfl h2).trans <|
  (runs_if_t (a := 1008) (b := 846) (L := [.ref 400, .ref 0, .ref 34, .int x]) (st := []) (w := w2) rfl rfl).trans <|
  lw_next
set_option maxRecDepth 100000 in
theorem lw_22 {v : Int64} (g1 : ¬ (x + 1 < 0 ∨ L ≤ (x + 1).toNatClampNeg)) (g2 : ¬ (x + 2 < 0 ∨ L ≤ (x + 2).toNatClampNeg)) (g3 : ¬ (x + 3 < 0 ∨ L ≤ (x + 3).toNatClampNeg)) (h1 : ex 124 [.ref 0, .int (xs ((x + 1).toNatClampNeg)), .int (xs ((x + 2).toNatClampNeg)), .int (xs ((x + 3).toNatClampNeg))] w = some (some (.long v), w1)) (h2 : ex 192 [.ref 34, .int (xs ((x + 1).toNatClampNeg)), .int (xs ((x + 2).toNatClampNeg)), .int (xs ((x + 3).toNatClampNeg))] w1 = some (some (.long v), w2)) : runs (T_law L xs ex) (848, [.ref 400, .ref 0, .ref 34, .int x], [], w) = runs (T_law L xs ex) (18, [.ref 400, .ref 0, .ref 34, .int (x + 7)], [], w2) :=
  (runs_stps (q' := (853, [.ref 400, .ref 0, .ref 34, .int x], [.int (x + 1), .ref 400, .ref 0], w)) 5 rfl).trans <|
  (runs_ck (q' := (854, [.ref 400, .ref 0, .ref 34, .int x], [.int (xs ((x + 1).toNatClampNeg)), .ref 0], w)) rfl g1).trans <|
  (runs_stps (q' := (858, [.ref 400, .ref 0, .ref 34, .int x], [.int (x + 2), .ref 400, .int (xs ((x + 1).toNatClampNeg)), .ref 0], w)) 4 rfl).trans <|
  (runs_ck (q' := (859, [.ref 400, .ref 0, .ref 34, .int x], [.int (xs ((x + 2).toNatClampNeg)), .int (xs ((x + 1).toNatClampNeg)), .ref 0], w)) rfl g2).trans <|
  (runs_stps (q' := (863, [.ref 400, .ref 0, .ref 34, .int x], [.int (x + 3), .ref 400, .int (xs ((x + 2).toNatClampNeg)), .int (xs ((x + 1).toNatClampNeg)), .ref 0], w)) 4 rfl).trans <|
  (runs_ck (q' := (864, [.ref 400, .ref 0, .ref 34, .int x], [.int (xs ((x + 3).toNatClampNeg)), .int (xs ((x + 2).toNatClampNeg)), .int (xs ((x + 1).toNatClampNeg)), .ref 0], w)) rfl g3).trans <|
  (runs_callV (rv := some (.long v)) (w' := w1) rfl rfl rfl rfl h1).trans <|
  (runs_stps (q' := (872, [.ref 400, .ref 0, .ref 34, .int x], [.int (x + 1), .ref 400, .ref 34, .long v], w1)) 5 rfl).trans <|
  (runs_ck (q' := (873, [.ref 400, .ref 0, .ref 34, .int x], [.int (xs ((x + 1).toNatClampNeg)), .ref 34, .long v], w1)) rfl g1).trans <|
  (runs_stps (q' := (877, [.ref 400, .ref 0, .ref 34, .int x], [.int (x + 2), .ref 400, .int (xs ((x + 1).toNatClampNeg)), .ref 34, .long v], w1)) 4 rfl).trans <|
  (runs_ck (q' := (878, [.ref 400, .ref 0, .ref 34, .int x], [.int (xs ((x + 2).toNatClampNeg)), .int (xs ((x + 1).toNatClampNeg)), .ref 34, .long v], w1)) rfl g2).trans <|
  (runs_stps (q' := (882, [.ref 400, .ref 0, .ref 34, .int x], [.int (x + 3), .ref 400, .int (xs ((x + 2).toNatClampNeg)), .int (xs ((x + 1).toNatClampNeg)), .ref 34, .long v], w1)) 4 rfl).trans <|
  (runs_ck (q' := (883, [.ref 400, .ref 0, .ref 34, .int x], [.int (xs ((x + 3).toNatClampNeg)), .int (xs ((x + 2).toNatClampNeg)), .int (xs ((x + 1).toNatClampNeg)), .ref 34, .long v], w1)) rfl g3).trans <|
  (runs_callV (rv := some (.long v)) (w' := w2) rfl rfl rfl rfl h2).trans <|
  (runs_stps (q' := (887, [.ref 400, .ref 0, .ref 34, .int x], [.int (lg_cmp v v)], w2)) 1 rfl).trans <|
  (runs_if_t (a := 1008) (b := 890) (L := [.ref 400, .ref 0, .ref 34, .int x]) (st := []) (w := w2) rfl (by rw [lg_cmp_eq])).trans <|
  lw_next
set_option maxRecDepth 100000 in
theorem lw_23 {v : Int32} (g1 : ¬ (x + 1 < 0 ∨ L ≤ (x + 1).toNatClampNeg)) (g2 : ¬ (x + 2 < 0 ∨ L ≤ (x + 2).toNatClampNeg)) (h1 : ex 125 [.ref 0, .int (xs ((x + 1).toNatClampNeg)), .int (xs ((x + 2).toNatClampNeg))] w = some (some (.int v), w1)) (h2 : ex 193 [.ref 34, .int (xs ((x + 1).toNatClampNeg)), .int (xs ((x + 2).toNatClampNeg))] w1 = some (some (.int v), w2)) : runs (T_law L xs ex) (892, [.ref 400, .ref 0, .ref 34, .int x], [], w) = runs (T_law L xs ex) (18, [.ref 400, .ref 0, .ref 34, .int (x + 7)], [], w2) :=
  (runs_stps (q' := (897, [.ref 400, .ref 0, .ref 34, .int x], [.int (x + 1), .ref 400, .ref 0], w)) 5 rfl).trans <|
  (runs_ck (q' := (898, [.ref 400, .ref 0, .ref 34, .int x], [.int (xs ((x + 1).toNatClampNeg)), .ref 0], w)) rfl g1).trans <|
  (runs_stps (q' := (902, [.ref 400, .ref 0, .ref 34, .int x], [.int (x + 2), .ref 400, .int (xs ((x + 1).toNatClampNeg)), .ref 0], w)) 4 rfl).trans <|
  (runs_ck (q' := (903, [.ref 400, .ref 0, .ref 34, .int x], [.int (xs ((x + 2).toNatClampNeg)), .int (xs ((x + 1).toNatClampNeg)), .ref 0], w)) rfl g2).trans <|
  (runs_callV (rv := some (.int v)) (w' := w1) rfl rfl rfl rfl h1).trans <|
  (runs_stps (q' := (911, [.ref 400, .ref 0, .ref 34, .int x], [.int (x + 1), .ref 400, .ref 34, .int v], w1)) 5 rfl).trans <|
  (runs_ck (q' := (912, [.ref 400, .ref 0, .ref 34, .int x], [.int (xs ((x + 1).toNatClampNeg)), .ref 34, .int v], w1)) rfl g1).trans <|
  (runs_stps (q' := (916, [.ref 400, .ref 0, .ref 34, .int x], [.int (x + 2), .ref 400, .int (xs ((x + 1).toNatClampNeg)), .ref 34, .int v], w1)) 4 rfl).trans <|
  (runs_ck (q' := (917, [.ref 400, .ref 0, .ref 34, .int x], [.int (xs ((x + 2).toNatClampNeg)), .int (xs ((x + 1).toNatClampNeg)), .ref 34, .int v], w1)) rfl g2).trans <|
  (runs_callV (rv := some (.int v)) (w' := w2) rfl rfl rfl rfl h2).trans <|
  (runs_if_t (a := 1008) (b := 923) (L := [.ref 400, .ref 0, .ref 34, .int x]) (st := []) (w := w2) rfl rfl).trans <|
  lw_next
set_option maxRecDepth 100000 in
theorem lw_24 {v : Int32} (g1 : ¬ (x + 1 < 0 ∨ L ≤ (x + 1).toNatClampNeg)) (h1 : ex 126 [.ref 0, .int (xs ((x + 1).toNatClampNeg))] w = some (some (.int v), w1)) (h2 : ex 194 [.ref 34, .int (xs ((x + 1).toNatClampNeg))] w1 = some (some (.int v), w2)) : runs (T_law L xs ex) (925, [.ref 400, .ref 0, .ref 34, .int x], [], w) = runs (T_law L xs ex) (18, [.ref 400, .ref 0, .ref 34, .int (x + 7)], [], w2) :=
  (runs_stps (q' := (930, [.ref 400, .ref 0, .ref 34, .int x], [.int (x + 1), .ref 400, .ref 0], w)) 5 rfl).trans <|
  (runs_ck (q' := (931, [.ref 400, .ref 0, .ref 34, .int x], [.int (xs ((x + 1).toNatClampNeg)), .ref 0], w)) rfl g1).trans <|
  (runs_callV (rv := some (.int v)) (w' := w1) rfl rfl rfl rfl h1).trans <|
  (runs_stps (q' := (939, [.ref 400, .ref 0, .ref 34, .int x], [.int (x + 1), .ref 400, .ref 34, .int v], w1)) 5 rfl).trans <|
  (runs_ck (q' := (940, [.ref 400, .ref 0, .ref 34, .int x], [.int (xs ((x + 1).toNatClampNeg)), .ref 34, .int v], w1)) rfl g1).trans <|
  (runs_callV (rv := some (.int v)) (w' := w2) rfl rfl rfl rfl h2).trans <|
  (runs_if_t (a := 1008) (b := 946) (L := [.ref 400, .ref 0, .ref 34, .int x]) (st := []) (w := w2) rfl rfl).trans <|
  lw_next
set_option maxRecDepth 100000 in
theorem lw_25 {v : Int32} (g1 : ¬ (x + 1 < 0 ∨ L ≤ (x + 1).toNatClampNeg)) (h1 : ex 127 [.ref 0, .int (xs ((x + 1).toNatClampNeg))] w = some (some (.int v), w1)) (h2 : ex 195 [.ref 34, .int (xs ((x + 1).toNatClampNeg))] w1 = some (some (.int v), w2)) : runs (T_law L xs ex) (948, [.ref 400, .ref 0, .ref 34, .int x], [], w) = runs (T_law L xs ex) (18, [.ref 400, .ref 0, .ref 34, .int (x + 7)], [], w2) :=
  (runs_stps (q' := (953, [.ref 400, .ref 0, .ref 34, .int x], [.int (x + 1), .ref 400, .ref 0], w)) 5 rfl).trans <|
  (runs_ck (q' := (954, [.ref 400, .ref 0, .ref 34, .int x], [.int (xs ((x + 1).toNatClampNeg)), .ref 0], w)) rfl g1).trans <|
  (runs_callV (rv := some (.int v)) (w' := w1) rfl rfl rfl rfl h1).trans <|
  (runs_stps (q' := (962, [.ref 400, .ref 0, .ref 34, .int x], [.int (x + 1), .ref 400, .ref 34, .int v], w1)) 5 rfl).trans <|
  (runs_ck (q' := (963, [.ref 400, .ref 0, .ref 34, .int x], [.int (xs ((x + 1).toNatClampNeg)), .ref 34, .int v], w1)) rfl g1).trans <|
  (runs_callV (rv := some (.int v)) (w' := w2) rfl rfl rfl rfl h2).trans <|
  (runs_if_t (a := 1008) (b := 969) (L := [.ref 400, .ref 0, .ref 34, .int x]) (st := []) (w := w2) rfl rfl).trans <|
  lw_next
set_option maxRecDepth 100000 in
theorem lw_26 {v : Int32} (g1 : ¬ (x + 1 < 0 ∨ L ≤ (x + 1).toNatClampNeg)) (h1 : ex 128 [.ref 0, .int (xs ((x + 1).toNatClampNeg))] w = some (some (.int v), w1)) (h2 : ex 196 [.ref 34, .int (xs ((x + 1).toNatClampNeg))] w1 = some (some (.int v), w2)) : runs (T_law L xs ex) (971, [.ref 400, .ref 0, .ref 34, .int x], [], w) = runs (T_law L xs ex) (18, [.ref 400, .ref 0, .ref 34, .int (x + 7)], [], w2) :=
  (runs_stps (q' := (976, [.ref 400, .ref 0, .ref 34, .int x], [.int (x + 1), .ref 400, .ref 0], w)) 5 rfl).trans <|
  (runs_ck (q' := (977, [.ref 400, .ref 0, .ref 34, .int x], [.int (xs ((x + 1).toNatClampNeg)), .ref 0], w)) rfl g1).trans <|
  (runs_callV (rv := some (.int v)) (w' := w1) rfl rfl rfl rfl h1).trans <|
  (runs_stps (q' := (985, [.ref 400, .ref 0, .ref 34, .int x], [.int (x + 1), .ref 400, .ref 34, .int v], w1)) 5 rfl).trans <|
  (runs_ck (q' := (986, [.ref 400, .ref 0, .ref 34, .int x], [.int (xs ((x + 1).toNatClampNeg)), .ref 34, .int v], w1)) rfl g1).trans <|
  (runs_callV (rv := some (.int v)) (w' := w2) rfl rfl rfl rfl h2).trans <|
  (runs_if_t (a := 1008) (b := 992) (L := [.ref 400, .ref 0, .ref 34, .int x]) (st := []) (w := w2) rfl rfl).trans <|
  lw_next
set_option maxRecDepth 100000 in
theorem lw_27 {v : Int64}  (h1 : ex 129 [.ref 0] w = some (some (.long v), w1)) (h2 : ex 197 [.ref 34] w1 = some (some (.long v), w2)) : runs (T_law L xs ex) (994, [.ref 400, .ref 0, .ref 34, .int x], [], w) = runs (T_law L xs ex) (18, [.ref 400, .ref 0, .ref 34, .int (x + 7)], [], w2) :=
  (runs_stps (q' := (995, [.ref 400, .ref 0, .ref 34, .int x], [.ref 0], w)) 1 rfl).trans <|
  (runs_callV (rv := some (.long v)) (w' := w1) rfl rfl rfl rfl h1).trans <|
  (runs_stps (q' := (999, [.ref 400, .ref 0, .ref 34, .int x], [.ref 34, .long v], w1)) 1 rfl).trans <|
  (runs_callV (rv := some (.long v)) (w' := w2) rfl rfl rfl rfl h2).trans <|
  (runs_stps (q' := (1003, [.ref 400, .ref 0, .ref 34, .int x], [.int (lg_cmp v v)], w2)) 1 rfl).trans <|
  (runs_if_t (a := 1008) (b := 1006) (L := [.ref 400, .ref 0, .ref 34, .int x]) (st := []) (w := w2) rfl (by rw [lg_cmp_eq])).trans <|
  lw_next
end LAWP

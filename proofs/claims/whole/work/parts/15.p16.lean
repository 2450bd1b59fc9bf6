/-! paths of the methods (printed by a program) -/
theorem p_X9_rate_109TTTTTTF_R {ex : Ex} {x1 : Int32} {x2 : Int32} {x3 : Int32} {x4 : Int32} {x5 : Int32} {x6 : Int32} {x7 : Int32} {x8 : Int32} {v9 : Value} {w : Wd} (h1 : (w.1 34 14) ≤ x8) (h2 : ¬ x1 = 0) (h3 : ¬ x1 = 1) (h4 : ¬ x1 = 2) (h5 : ¬ x1 = 3) (h6 : ¬ x1 = 4) (h7 : x1 = 0) : runs (T_X9_rate ex) (109, [.ref 34, .int x1, .int x2, .int x3, .int x4, .int x5, .int x6, .int x7, .int x8, v9], [], w) = some (some (.int x3), updL w 34 1 ((w.2 34 1) + 100001)) := 
    (runs_stps (q' := (115, [.ref 34, .int x1, .int x2, .int x3, .int x4, .int x5, .int x6, .int x7, .int x8, .null], [.int (w.1 34 14), .int x8], w)) 3 rfl).trans <|
    (runs_if_t (a := 169) (b := 118) (L := [.ref 34, .int x1, .int x2, .int x3, .int x4, .int x5, .int x6, .int x7, .int x8, .null]) (st := []) (w := w) rfl h1).trans <|
    (runs_stps (q' := (175, [.ref 34, .int x1, .null, .int x3, .int x4, .int x5, .int x6, .int x7, .null, .null], [.int x1, .long (w.2 34 1), .ref 34], w)) 4 rfl).trans <|
    (runs_if_f (a := 178) (b := 182) (L := [.ref 34, .int x1, .null, .int x3, .int x4, .int x5, .int x6, .int x7, .null, .null]) (st := [.long (w.2 34 1), .ref 34]) (w := w) rfl h2).trans <|
    (runs_stps (q' := (184, [.null, .int x1, .null, .int x3, .int x4, .int x5, .int x6, .int x7, .null, .null], [.int 1, .int x1, .long (w.2 34 1), .ref 34], w)) 2 rfl).trans <|
    (runs_if_f (a := 187) (b := 193) (L := [.null, .int x1, .null, .int x3, .int x4, .int x5, .int x6, .int x7, .null, .null]) (st := [.long (w.2 34 1), .ref 34]) (w := w) rfl h3).trans <|
    (runs_stps (q' := (195, [.null, .int x1, .null, .int x3, .int x4, .int x5, .int x6, .int x7, .null, .null], [.int 2, .int x1, .long (w.2 34 1), .ref 34], w)) 2 rfl).trans <|
    (runs_if_f (a := 198) (b := 204) (L := [.null, .int x1, .null, .int x3, .int x4, .int x5, .int x6, .int x7, .null, .null]) (st := [.long (w.2 34 1), .ref 34]) (w := w) rfl h4).trans <|
    (runs_stps (q' := (206, [.null, .int x1, .null, .int x3, .int x4, .int x5, .int x6, .int x7, .null, .null], [.int 3, .int x1, .long (w.2 34 1), .ref 34], w)) 2 rfl).trans <|
    (runs_if_f (a := 209) (b := 215) (L := [.null, .int x1, .null, .int x3, .int x4, .int x5, .int x6, .int x7, .null, .null]) (st := [.long (w.2 34 1), .ref 34]) (w := w) rfl h5).trans <|
    (runs_stps (q' := (217, [.null, .int x1, .null, .int x3, .int x4, .int x5, .int x6, .int x7, .null, .null], [.int 4, .int x1, .long (w.2 34 1), .ref 34], w)) 2 rfl).trans <|
    (runs_if_f (a := 220) (b := 226) (L := [.null, .int x1, .null, .int x3, .int x4, .int x5, .int x6, .int x7, .null, .null]) (st := [.long (w.2 34 1), .ref 34]) (w := w) rfl h6).trans <|
    (runs_stps (q' := (234, [.null, .int x1, .null, .int x3, .int x4, .int x5, .int x6, .int x7, .null, .null], [.int x1], updL w 34 1 ((w.2 34 1) + 100001))) 4 rfl).trans <|
    (runs_if_t (a := 237) (b := 241) (L := [.null, .int x1, .null, .int x3, .int x4, .int x5, .int x6, .int x7, .null, .null]) (st := []) (w := updL w 34 1 ((w.2 34 1) + 100001)) rfl h7).trans <|
    (runs_stps (q' := (290, [.null, .int x1, .null, .int x3, .int x4, .int x5, .int x6, .int x7, .null, .null], [.int x3], updL w 34 1 ((w.2 34 1) + 100001))) 2 rfl).trans <|
    runs_ret rfl
theorem p_X9_rate_109TTTTTFTTTTT_R {ex : Ex} {x1 : Int32} {x2 : Int32} {x3 : Int32} {x4 : Int32} {x5 : Int32} {x6 : Int32} {x7 : Int32} {x8 : Int32} {v9 : Value} {w : Wd} (h1 : (w.1 34 14) ≤ x8) (h2 : ¬ x1 = 0) (h3 : ¬ x1 = 1) (h4 : ¬ x1 = 2) (h5 : ¬ x1 = 3) (h6 : x1 = 4) (h7 : ¬ x1 = 0) (h8 : ¬ x1 = 1) (h9 : ¬ x1 = 2) (h10 : ¬ x1 = 3) (h11 : ¬ x1 = 4) : runs (T_X9_rate ex) (109, [.ref 34, .int x1, .int x2, .int x3, .int x4, .int x5, .int x6, .int x7, .int x8, v9], [], w) = some (some (.int (x3 + x7)), updL w 34 1 ((w.2 34 1) + 10101)) := 
    (runs_stps (q' := (115, [.ref 34, .int x1, .int x2, .int x3, .int x4, .int x5, .int x6, .int x7, .int x8, .null], [.int (w.1 34 14), .int x8], w)) 3 rfl).trans <|
    (runs_if_t (a := 169) (b := 118) (L := [.ref 34, .int x1, .int x2, .int x3, .int x4, .int x5, .int x6, .int x7, .int x8, .null]) (st := []) (w := w) rfl h1).trans <|
    (runs_stps (q' := (175, [.ref 34, .int x1, .null, .int x3, .int x4, .int x5, .int x6, .int x7, .null, .null], [.int x1, .long (w.2 34 1), .ref 34], w)) 4 rfl).trans <|
    (runs_if_f (a := 178) (b := 182) (L := [.ref 34, .int x1, .null, .int x3, .int x4, .int x5, .int x6, .int x7, .null, .null]) (st := [.long (w.2 34 1), .ref 34]) (w := w) rfl h2).trans <|
    (runs_stps (q' := (184, [.null, .int x1, .null, .int x3, .int x4, .int x5, .int x6, .int x7, .null, .null], [.int 1, .int x1, .long (w.2 34 1), .ref 34], w)) 2 rfl).trans <|
    (runs_if_f (a := 187) (b := 193) (L := [.null, .int x1, .null, .int x3, .int x4, .int x5, .int x6, .int x7, .null, .null]) (st := [.long (w.2 34 1), .ref 34]) (w := w) rfl h3).trans <|
    (runs_stps (q' := (195, [.null, .int x1, .null, .int x3, .int x4, .int x5, .int x6, .int x7, .null, .null], [.int 2, .int x1, .long (w.2 34 1), .ref 34], w)) 2 rfl).trans <|
    (runs_if_f (a := 198) (b := 204) (L := [.null, .int x1, .null, .int x3, .int x4, .int x5, .int x6, .int x7, .null, .null]) (st := [.long (w.2 34 1), .ref 34]) (w := w) rfl h4).trans <|
    (runs_stps (q' := (206, [.null, .int x1, .null, .int x3, .int x4, .int x5, .int x6, .int x7, .null, .null], [.int 3, .int x1, .long (w.2 34 1), .ref 34], w)) 2 rfl).trans <|
    (runs_if_f (a := 209) (b := 215) (L := [.null, .int x1, .null, .int x3, .int x4, .int x5, .int x6, .int x7, .null, .null]) (st := [.long (w.2 34 1), .ref 34]) (w := w) rfl h5).trans <|
    (runs_stps (q' := (217, [.null, .int x1, .null, .int x3, .int x4, .int x5, .int x6, .int x7, .null, .null], [.int 4, .int x1, .long (w.2 34 1), .ref 34], w)) 2 rfl).trans <|
    (runs_if_t (a := 220) (b := 226) (L := [.null, .int x1, .null, .int x3, .int x4, .int x5, .int x6, .int x7, .null, .null]) (st := [.long (w.2 34 1), .ref 34]) (w := w) rfl h6).trans <|
    (runs_stps (q' := (234, [.null, .int x1, .null, .int x3, .int x4, .int x5, .int x6, .int x7, .null, .null], [.int x1], updL w 34 1 ((w.2 34 1) + 10101))) 5 rfl).trans <|
    (runs_if_f (a := 237) (b := 241) (L := [.null, .int x1, .null, .int x3, .int x4, .int x5, .int x6, .int x7, .null, .null]) (st := []) (w := updL w 34 1 ((w.2 34 1) + 10101)) rfl h7).trans <|
    (runs_stps (q' := (243, [.null, .int x1, .null, .int x3, .int x4, .int x5, .int x6, .int x7, .null, .null], [.int 1, .int x1], updL w 34 1 ((w.2 34 1) + 10101))) 2 rfl).trans <|
    (runs_if_f (a := 246) (b := 251) (L := [.null, .int x1, .null, .int x3, .int x4, .int x5, .int x6, .int x7, .null, .null]) (st := []) (w := updL w 34 1 ((w.2 34 1) + 10101)) rfl h8).trans <|
    (runs_stps (q' := (253, [.null, .int x1, .null, .int x3, .int x4, .int x5, .int x6, .int x7, .null, .null], [.int 2, .int x1], updL w 34 1 ((w.2 34 1) + 10101))) 2 rfl).trans <|
    (runs_if_f (a := 256) (b := 261) (L := [.null, .int x1, .null, .int x3, .int x4, .int x5, .int x6, .int x7, .null, .null]) (st := []) (w := updL w 34 1 ((w.2 34 1) + 10101)) rfl h9).trans <|
    (runs_stps (q' := (263, [.null, .int x1, .null, .int x3, .int x4, .int x5, .int x6, .int x7, .null, .null], [.int 3, .int x1], updL w 34 1 ((w.2 34 1) + 10101))) 2 rfl).trans <|
    (runs_if_f (a := 266) (b := 273) (L := [.null, .int x1, .null, .int x3, .int x4, .int x5, .int x6, .int x7, .null, .null]) (st := []) (w := updL w 34 1 ((w.2 34 1) + 10101)) rfl h10).trans <|
    (runs_stps (q' := (275, [.null, .int x1, .null, .int x3, .null, .int x5, .int x6, .int x7, .null, .null], [.int 4, .int x1], updL w 34 1 ((w.2 34 1) + 10101))) 2 rfl).trans <|
    (runs_if_f (a := 278) (b := 286) (L := [.null, .int x1, .null, .int x3, .null, .int x5, .int x6, .int x7, .null, .null]) (st := []) (w := updL w 34 1 ((w.2 34 1) + 10101)) rfl h11).trans <|
    (runs_stps (q' := (290, [.null, .null, .null, .int x3, .null, .null, .null, .int x7, .null, .null], [.int (x3 + x7)], updL w 34 1 ((w.2 34 1) + 10101))) 3 rfl).trans <|
    runs_ret rfl
theorem p_X9_rate_109TTTTTFTTTTF_R {ex : Ex} {x1 : Int32} {x2 : Int32} {x3 : Int32} {x4 : Int32} {x5 : Int32} {x6 : Int32} {x7 : Int32} {x8 : Int32} {v9 : Value} {w : Wd} (h1 : (w.1 34 14) ≤ x8) (h2 : ¬ x1 = 0) (h3 : ¬ x1 = 1) (h4 : ¬ x1 = 2) (h5 : ¬ x1 = 3) (h6 : x1 = 4) (h7 : ¬ x1 = 0) (h8 : ¬ x1 = 1) (h9 : ¬ x1 = 2) (h10 : ¬ x1 = 3) (h11 : x1 = 4) : runs (T_X9_rate ex) (109, [.ref 34, .int x1, .int x2, .int x3, .int x4, .int x5, .int x6, .int x7, .int x8, v9], [], w) = some (some (.int (x5 + x6)), updL w 34 1 ((w.2 34 1) + 10101)) := 
    (runs_stps (q' := (115, [.ref 34, .int x1, .int x2, .int x3, .int x4, .int x5, .int x6, .int x7, .int x8, .null], [.int (w.1 34 14), .int x8], w)) 3 rfl).trans <|
    (runs_if_t (a := 169) (b := 118) (L := [.ref 34, .int x1, .int x2, .int x3, .int x4, .int x5, .int x6, .int x7, .int x8, .null]) (st := []) (w := w) rfl h1).trans <|
    (runs_stps (q' := (175, [.ref 34, .int x1, .null, .int x3, .int x4, .int x5, .int x6, .int x7, .null, .null], [.int x1, .long (w.2 34 1), .ref 34], w)) 4 rfl).trans <|
    (runs_if_f (a := 178) (b := 182) (L := [.ref 34, .int x1, .null, .int x3, .int x4, .int x5, .int x6, .int x7, .null, .null]) (st := [.long (w.2 34 1), .ref 34]) (w := w) rfl h2).trans <|
    (runs_stps (q' := (184, [.null, .int x1, .null, .int x3, .int x4, .int x5, .int x6, .int x7, .null, .null], [.int 1, .int x1, .long (w.2 34 1), .ref 34], w)) 2 rfl).trans <|
    (runs_if_f (a := 187) (b := 193) (L := [.null, .int x1, .null, .int x3, .int x4, .int x5, .int x6, .int x7, .null, .null]) (st := [.long (w.2 34 1), .ref 34]) (w := w) rfl h3).trans <|
    (runs_stps (q' := (195, [.null, .int x1, .null, .int x3, .int x4, .int x5, .int x6, .int x7, .null, .null], [.int 2, .int x1, .long (w.2 34 1), .ref 34], w)) 2 rfl).trans <|
    (runs_if_f (a := 198) (b := 204) (L := [.null, .int x1, .null, .int x3, .int x4, .int x5, .int x6, .int x7, .null, .null]) (st := [.long (w.2 34 1), .ref 34]) (w := w) rfl h4).trans <|
    (runs_stps (q' := (206, [.null, .int x1, .null, .int x3, .int x4, .int x5, .int x6, .int x7, .null, .null], [.int 3, .int x1, .long (w.2 34 1), .ref 34], w)) 2 rfl).trans <|
    (runs_if_f (a := 209) (b := 215) (L := [.null, .int x1, .null, .int x3, .int x4, .int x5, .int x6, .int x7, .null, .null]) (st := [.long (w.2 34 1), .ref 34]) (w := w) rfl h5).trans <|
    (runs_stps (q' := (217, [.null, .int x1, .null, .int x3, .int x4, .int x5, .int x6, .int x7, .null, .null], [.int 4, .int x1, .long (w.2 34 1), .ref 34], w)) 2 rfl).trans <|
    (runs_if_t (a := 220) (b := 226) (L := [.null, .int x1, .null, .int x3, .int x4, .int x5, .int x6, .int x7, .null, .null]) (st := [.long (w.2 34 1), .ref 34]) (w := w) rfl h6).trans <|
    (runs_stps (q' := (234, [.null, .int x1, .null, .int x3, .int x4, .int x5, .int x6, .int x7, .null, .null], [.int x1], updL w 34 1 ((w.2 34 1) + 10101))) 5 rfl).trans <|
    (runs_if_f (a := 237) (b := 241) (L := [.null, .int x1, .null, .int x3, .int x4, .int x5, .int x6, .int x7, .null, .null]) (st := []) (w := updL w 34 1 ((w.2 34 1) + 10101)) rfl h7).trans <|
    (runs_stps (q' := (243, [.null, .int x1, .null, .int x3, .int x4, .int x5, .int x6, .int x7, .null, .null], [.int 1, .int x1], updL w 34 1 ((w.2 34 1) + 10101))) 2 rfl).trans <|
    (runs_if_f (a := 246) (b := 251) (L := [.null, .int x1, .null, .int x3, .int x4, .int x5, .int x6, .int x7, .null, .null]) (st := []) (w := updL w 34 1 ((w.2 34 1) + 10101)) rfl h8).trans <|
    (runs_stps (q' := (253, [.null, .int x1, .null, .int x3, .int x4, .int x5, .int x6, .int x7, .null, .null], [.int 2, .int x1], updL w 34 1 ((w.2 34 1) + 10101))) 2 rfl).trans <|
    (runs_if_f (a := 256) (b := 261) (L := [.null, .int x1, .null, .int x3, .int x4, .int x5, .int x6, .int x7, .null, .null]) (st := []) (w := updL w 34 1 ((w.2 34 1) + 10101)) rfl h9).trans <|
    (runs_stps (q' := (263, [.null, .int x1, .null, .int x3, .int x4, .int x5, .int x6, .int x7, .null, .null], [.int 3, .int x1], updL w 34 1 ((w.2 34 1) + 10101))) 2 rfl).trans <|
    (runs_if_f (a := 266) (b := 273) (L := [.null, .int x1, .null, .int x3, .int x4, .int x5, .int x6, .int x7, .null, .null]) (st := []) (w := updL w 34 1 ((w.2 34 1) + 10101)) rfl h10).trans <|
    (runs_stps (q' := (275, [.null, .int x1, .null, .int x3, .null, .int x5, .int x6, .int x7, .null, .null], [.int 4, .int x1], updL w 34 1 ((w.2 34 1) + 10101))) 2 rfl).trans <|
    (runs_if_t (a := 278) (b := 286) (L := [.null, .int x1, .null, .int x3, .null, .int x5, .int x6, .int x7, .null, .null]) (st := []) (w := updL w 34 1 ((w.2 34 1) + 10101)) rfl h11).trans <|
    (runs_stps (q' := (290, [.null, .int x1, .null, .int x3, .null, .int x5, .int x6, .int x7, .null, .null], [.int (x5 + x6)], updL w 34 1 ((w.2 34 1) + 10101))) 4 rfl).trans <|
    runs_ret rfl
theorem p_X9_rate_109TTTTTFTTTF_R {ex : Ex} {x1 : Int32} {x2 : Int32} {x3 : Int32} {x4 : Int32} {x5 : Int32} {x6 : Int32} {x7 : Int32} {x8 : Int32} {v9 : Value} {w : Wd} (h1 : (w.1 34 14) ≤ x8) (h2 : ¬ x1 = 0) (h3 : ¬ x1 = 1) (h4 : ¬ x1 = 2) (h5 : ¬ x1 = 3) (h6 : x1 = 4) (h7 : ¬ x1 = 0) (h8 : ¬ x1 = 1) (h9 : ¬ x1 = 2) (h10 : x1 = 3) : runs (T_X9_rate ex) (109, [.ref 34, .int x1, .int x2, .int x3, .int x4, .int x5, .int x6, .int x7, .int x8, v9], [], w) = some (some (.int (2 * x4)), updL w 34 1 ((w.2 34 1) + 10101)) := 
    (runs_stps (q' := (115, [.ref 34, .int x1, .int x2, .int x3, .int x4, .int x5, .int x6, .int x7, .int x8, .null], [.int (w.1 34 14), .int x8], w)) 3 rfl).trans <|
    (runs_if_t (a := 169) (b := 118) (L := [.ref 34, .int x1, .int x2, .int x3, .int x4, .int x5, .int x6, .int x7, .int x8, .null]) (st := []) (w := w) rfl h1).trans <|
    (runs_stps (q' := (175, [.ref 34, .int x1, .null, .int x3, .int x4, .int x5, .int x6, .int x7, .null, .null], [.int x1, .long (w.2 34 1), .ref 34], w)) 4 rfl).trans <|
    (runs_if_f (a := 178) (b := 182) (L := [.ref 34, .int x1, .null, .int x3, .int x4, .int x5, .int x6, .int x7, .null, .null]) (st := [.long (w.2 34 1), .ref 34]) (w := w) rfl h2).trans <|
    (runs_stps (q' := (184, [.null, .int x1, .null, .int x3, .int x4, .int x5, .int x6, .int x7, .null, .null], [.int 1, .int x1, .long (w.2 34 1), .ref 34], w)) 2 rfl).trans <|
    (runs_if_f (a := 187) (b := 193) (L := [.null, .int x1, .null, .int x3, .int x4, .int x5, .int x6, .int x7, .null, .null]) (st := [.long (w.2 34 1), .ref 34]) (w := w) rfl h3).trans <|
    (runs_stps (q' := (195, [.null, .int x1, .null, .int x3, .int x4, .int x5, .int x6, .int x7, .null, .null], [.int 2, .int x1, .long (w.2 34 1), .ref 34], w)) 2 rfl).trans <|
    (runs_if_f (a := 198) (b := 204) (L := [.null, .int x1, .null, .int x3, .int x4, .int x5, .int x6, .int x7, .null, .null]) (st := [.long (w.2 34 1), .ref 34]) (w := w) rfl h4).trans <|
    (runs_stps (q' := (206, [.null, .int x1, .null, .int x3, .int x4, .int x5, .int x6, .int x7, .null, .null], [.int 3, .int x1, .long (w.2 34 1), .ref 34], w)) 2 rfl).trans <|
    (runs_if_f (a := 209) (b := 215) (L := [.null, .int x1, .null, .int x3, .int x4, .int x5, .int x6, .int x7, .null, .null]) (st := [.long (w.2 34 1), .ref 34]) (w := w) rfl h5).trans <|
    (runs_stps (q' := (217, [.null, .int x1, .null, .int x3, .int x4, .int x5, .int x6, .int x7, .null, .null], [.int 4, .int x1, .long (w.2 34 1), .ref 34], w)) 2 rfl).trans <|
    (runs_if_t (a := 220) (b := 226) (L := [.null, .int x1, .null, .int x3, .int x4, .int x5, .int x6, .int x7, .null, .null]) (st := [.long (w.2 34 1), .ref 34]) (w := w) rfl h6).trans <|
    (runs_stps (q' := (234, [.null, .int x1, .null, .int x3, .int x4, .int x5, .int x6, .int x7, .null, .null], [.int x1], updL w 34 1 ((w.2 34 1) + 10101))) 5 rfl).trans <|
    (runs_if_f (a := 237) (b := 241) (L := [.null, .int x1, .null, .int x3, .int x4, .int x5, .int x6, .int x7, .null, .null]) (st := []) (w := updL w 34 1 ((w.2 34 1) + 10101)) rfl h7).trans <|
    (runs_stps (q' := (243, [.null, .int x1, .null, .int x3, .int x4, .int x5, .int x6, .int x7, .null, .null], [.int 1, .int x1], updL w 34 1 ((w.2 34 1) + 10101))) 2 rfl).trans <|
    (runs_if_f (a := 246) (b := 251) (L := [.null, .int x1, .null, .int x3, .int x4, .int x5, .int x6, .int x7, .null, .null]) (st := []) (w := updL w 34 1 ((w.2 34 1) + 10101)) rfl h8).trans <|
    (runs_stps (q' := (253, [.null, .int x1, .null, .int x3, .int x4, .int x5, .int x6, .int x7, .null, .null], [.int 2, .int x1], updL w 34 1 ((w.2 34 1) + 10101))) 2 rfl).trans <|
    (runs_if_f (a := 256) (b := 261) (L := [.null, .int x1, .null, .int x3, .int x4, .int x5, .int x6, .int x7, .null, .null]) (st := []) (w := updL w 34 1 ((w.2 34 1) + 10101)) rfl h9).trans <|
    (runs_stps (q' := (263, [.null, .int x1, .null, .int x3, .int x4, .int x5, .int x6, .int x7, .null, .null], [.int 3, .int x1], updL w 34 1 ((w.2 34 1) + 10101))) 2 rfl).trans <|
    (runs_if_t (a := 266) (b := 273) (L := [.null, .int x1, .null, .int x3, .int x4, .int x5, .int x6, .int x7, .null, .null]) (st := []) (w := updL w 34 1 ((w.2 34 1) + 10101)) rfl h10).trans <|
    (runs_stps (q' := (290, [.null, .int x1, .null, .int x3, .int x4, .int x5, .int x6, .int x7, .null, .null], [.int (2 * x4)], updL w 34 1 ((w.2 34 1) + 10101))) 4 rfl).trans <|
    runs_ret rfl
theorem p_X9_rate_109TTTTTFTTF_R {ex : Ex} {x1 : Int32} {x2 : Int32} {x3 : Int32} {x4 : Int32} {x5 : Int32} {x6 : Int32} {x7 : Int32} {x8 : Int32} {v9 : Value} {w : Wd} (h1 : (w.1 34 14) ≤ x8) (h2 : ¬ x1 = 0) (h3 : ¬ x1 = 1) (h4 : ¬ x1 = 2) (h5 : ¬ x1 = 3) (h6 : x1 = 4) (h7 : ¬ x1 = 0) (h8 : ¬ x1 = 1) (h9 : x1 = 2) : runs (T_X9_rate ex) (109, [.ref 34, .int x1, .int x2, .int x3, .int x4, .int x5, .int x6, .int x7, .int x8, v9], [], w) = some (some (.int x5), updL w 34 1 ((w.2 34 1) + 10101)) := 
    (runs_stps (q' := (115, [.ref 34, .int x1, .int x2, .int x3, .int x4, .int x5, .int x6, .int x7, .int x8, .null], [.int (w.1 34 14), .int x8], w)) 3 rfl).trans <|
    (runs_if_t (a := 169) (b := 118) (L := [.ref 34, .int x1, .int x2, .int x3, .int x4, .int x5, .int x6, .int x7, .int x8, .null]) (st := []) (w := w) rfl h1).trans <|
    (runs_stps (q' := (175, [.ref 34, .int x1, .null, .int x3, .int x4, .int x5, .int x6, .int x7, .null, .null], [.int x1, .long (w.2 34 1), .ref 34], w)) 4 rfl).trans <|
    (runs_if_f (a := 178) (b := 182) (L := [.ref 34, .int x1, .null, .int x3, .int x4, .int x5, .int x6, .int x7, .null, .null]) (st := [.long (w.2 34 1), .ref 34]) (w := w) rfl h2).trans <|
    (runs_stps (q' := (184, [.null, .int x1, .null, .int x3, .int x4, .int x5, .int x6, .int x7, .null, .null], [.int 1, .int x1, .long (w.2 34 1), .ref 34], w)) 2 rfl).trans <|
    (runs_if_f (a := 187) (b := 193) (L := [.null, .int x1, .null, .int x3, .int x4, .int x5, .int x6, .int x7, .null, .null]) (st := [.long (w.2 34 1), .ref 34]) (w := w) rfl h3).trans <|
    (runs_stps (q' := (195, [.null, .int x1, .null, .int x3, .int x4, .int x5, .int x6, .int x7, .null, .null], [.int 2, .int x1, .long (w.2 34 1), .ref 34], w)) 2 rfl).trans <|
    (runs_if_f (a := 198) (b := 204) (L := [.null, .int x1, .null, .int x3, .int x4, .int x5, .int x6, .int x7, .null, .null]) (st := [.long (w.2 34 1), .ref 34]) (w := w) rfl h4).trans <|
    (runs_stps (q' := (206, [.null, .int x1, .null, .int x3, .int x4, .int x5, .int x6, .int x7, .null, .null], [.int 3, .int x1, .long (w.2 34 1), .ref 34], w)) 2 rfl).trans <|
    (runs_if_f (a := 209) (b := 215) (L := [.null, .int x1, .null, .int x3, .int x4, .int x5, .int x6, .int x7, .null, .null]) (st := [.long (w.2 34 1), .ref 34]) (w := w) rfl h5).trans <|
    (runs_stps (q' := (217, [.null, .int x1, .null, .int x3, .int x4, .int x5, .int x6, .int x7, .null, .null], [.int 4, .int x1, .long (w.2 34 1), .ref 34], w)) 2 rfl).trans <|
    (runs_if_t (a := 220) (b := 226) (L := [.null, .int x1, .null, .int x3, .int x4, .int x5, .int x6, .int x7, .null, .null]) (st := [.long (w.2 34 1), .ref 34]) (w := w) rfl h6).trans <|
    (runs_stps (q' := (234, [.null, .int x1, .null, .int x3, .int x4, .int x5, .int x6, .int x7, .null, .null], [.int x1], updL w 34 1 ((w.2 34 1) + 10101))) 5 rfl).trans <|
    (runs_if_f (a := 237) (b := 241) (L := [.null, .int x1, .null, .int x3, .int x4, .int x5, .int x6, .int x7, .null, .null]) (st := []) (w := updL w 34 1 ((w.2 34 1) + 10101)) rfl h7).trans <|
    (runs_stps (q' := (243, [.null, .int x1, .null, .int x3, .int x4, .int x5, .int x6, .int x7, .null, .null], [.int 1, .int x1], updL w 34 1 ((w.2 34 1) + 10101))) 2 rfl).trans <|
    (runs_if_f (a := 246) (b := 251) (L := [.null, .int x1, .null, .int x3, .int x4, .int x5, .int x6, .int x7, .null, .null]) (st := []) (w := updL w 34 1 ((w.2 34 1) + 10101)) rfl h8).trans <|
    (runs_stps (q' := (253, [.null, .int x1, .null, .int x3, .int x4, .int x5, .int x6, .int x7, .null, .null], [.int 2, .int x1], updL w 34 1 ((w.2 34 1) + 10101))) 2 rfl).trans <|
    (runs_if_t (a := 256) (b := 261) (L := [.null, .int x1, .null, .int x3, .int x4, .int x5, .int x6, .int x7, .null, .null]) (st := []) (w := updL w 34 1 ((w.2 34 1) + 10101)) rfl h9).trans <|
    (runs_stps (q' := (290, [.null, .int x1, .null, .int x3, .int x4, .int x5, .int x6, .int x7, .null, .null], [.int x5], updL w 34 1 ((w.2 34 1) + 10101))) 2 rfl).trans <|
    runs_ret rfl
theorem p_X9_rate_109TTTTTFTF_R {ex : Ex} {x1 : Int32} {x2 : Int32} {x3 : Int32} {x4 : Int32} {x5 : Int32} {x6 : Int32} {x7 : Int32} {x8 : Int32} {v9 : Value} {w : Wd} (h1 : (w.1 34 14) ≤ x8) (h2 : ¬ x1 = 0) (h3 : ¬ x1 = 1) (h4 : ¬ x1 = 2) (h5 : ¬ x1 = 3) (h6 : x1 = 4) (h7 : ¬ x1 = 0) (h8 : x1 = 1) : runs (T_X9_rate ex) (109, [.ref 34, .int x1, .int x2, .int x3, .int x4, .int x5, .int x6, .int x7, .int x8, v9], [], w) = some (some (.int x4), updL w 34 1 ((w.2 34 1) + 10101)) := 
    (runs_stps (q' := (115, [.ref 34, .int x1, .int x2, .int x3, .int x4, .int x5, .int x6, .int x7, .int x8, .null], [.int (w.1 34 14), .int x8], w)) 3 rfl).trans <|
    (runs_if_t (a := 169) (b := 118) (L := [.ref 34, .int x1, .int x2, .int x3, .int x4, .int x5, .int x6, .int x7, .int x8, .null]) (st := []) (w := w) rfl h1).trans <|
    (runs_stps (q' := (175, [.ref 34, .int x1, .null, .int x3, .int x4, .int x5, .int x6, .int x7, .null, .null], [.int x1, .long (w.2 34 1), .ref 34], w)) 4 rfl).trans <|
    (runs_if_f (a := 178) (b := 182) (L := [.ref 34, .int x1, .null, .int x3, .int x4, .int x5, .int x6, .int x7, .null, .null]) (st := [.long (w.2 34 1), .ref 34]) (w := w) rfl h2).trans <|
    (runs_stps (q' := (184, [.null, .int x1, .null, .int x3, .int x4, .int x5, .int x6, .int x7, .null, .null], [.int 1, .int x1, .long (w.2 34 1), .ref 34], w)) 2 rfl).trans <|
    (runs_if_f (a := 187) (b := 193) (L := [.null, .int x1, .null, .int x3, .int x4, .int x5, .int x6, .int x7, .null, .null]) (st := [.long (w.2 34 1), .ref 34]) (w := w) rfl h3).trans <|
    (runs_stps (q' := (195, [.null, .int x1, .null, .int x3, .int x4, .int x5, .int x6, .int x7, .null, .null], [.int 2, .int x1, .long (w.2 34 1), .ref 34], w)) 2 rfl).trans <|
    (runs_if_f (a := 198) (b := 204) (L := [.null, .int x1, .null, .int x3, .int x4, .int x5, .int x6, .int x7, .null, .null]) (st := [.long (w.2 34 1), .ref 34]) (w := w) rfl h4).trans <|
    (runs_stps (q' := (206, [.null, .int x1, .null, .int x3, .int x4, .int x5, .int x6, .int x7, .null, .null], [.int 3, .int x1, .long (w.2 34 1), .ref 34], w)) 2 rfl).trans <|
    (runs_if_f (a := 209) (b := 215) (L := [.null, .int x1, .null, .int x3, .int x4, .int x5, .int x6, .int x7, .null, .null]) (st := [.long (w.2 34 1), .ref 34]) (w := w) rfl h5).trans <|
    (runs_stps (q' := (217, [.null, .int x1, .null, .int x3, .int x4, .int x5, .int x6, .int x7, .null, .null], [.int 4, .int x1, .long (w.2 34 1), .ref 34], w)) 2 rfl).trans <|
    (runs_if_t (a := 220) (b := 226) (L := [.null, .int x1, .null, .int x3, .int x4, .int x5, .int x6, .int x7, .null, .null]) (st := [.long (w.2 34 1), .ref 34]) (w := w) rfl h6).trans <|
    (runs_stps (q' := (234, [.null, .int x1, .null, .int x3, .int x4, .int x5, .int x6, .int x7, .null, .null], [.int x1], updL w 34 1 ((w.2 34 1) + 10101))) 5 rfl).trans <|
    (runs_if_f (a := 237) (b := 241) (L := [.null, .int x1, .null, .int x3, .int x4, .int x5, .int x6, .int x7, .null, .null]) (st := []) (w := updL w 34 1 ((w.2 34 1) + 10101)) rfl h7).trans <|
    (runs_stps (q' := (243, [.null, .int x1, .null, .int x3, .int x4, .int x5, .int x6, .int x7, .null, .null], [.int 1, .int x1], updL w 34 1 ((w.2 34 1) + 10101))) 2 rfl).trans <|
    (runs_if_t (a := 246) (b := 251) (L := [.null, .int x1, .null, .int x3, .int x4, .int x5, .int x6, .int x7, .null, .null]) (st := []) (w := updL w 34 1 ((w.2 34 1) + 10101)) rfl h8).trans <|
    (runs_stps (q' := (290, [.null, .int x1, .null, .int x3, .int x4, .int x5, .int x6, .int x7, .null, .null], [.int x4], updL w 34 1 ((w.2 34 1) + 10101))) 2 rfl).trans <|
    runs_ret rfl
theorem p_X9_rate_109TTTTTFF_R {ex : Ex} {x1 : Int32} {x2 : Int32} {x3 : Int32} {x4 : Int32} {x5 : Int32} {x6 : Int32} {x7 : Int32} {x8 : Int32} {v9 : Value} {w : Wd} (h1 : (w.1 34 14) ≤ x8) (h2 : ¬ x1 = 0) (h3 : ¬ x1 = 1) (h4 : ¬ x1 = 2) (h5 : ¬ x1 = 3) (h6 : x1 = 4) (h7 : x1 = 0) : runs (T_X9_rate ex) (109, [.ref 34, .int x1, .int x2, .int x3, .int x4, .int x5, .int x6, .int x7, .int x8, v9], [], w) = some (some (.int x3), updL w 34 1 ((w.2 34 1) + 10101)) := 
    (runs_stps (q' := (115, [.ref 34, .int x1, .int x2, .int x3, .int x4, .int x5, .int x6, .int x7, .int x8, .null], [.int (w.1 34 14), .int x8], w)) 3 rfl).trans <|
    (runs_if_t (a := 169) (b := 118) (L := [.ref 34, .int x1, .int x2, .int x3, .int x4, .int x5, .int x6, .int x7, .int x8, .null]) (st := []) (w := w) rfl h1).trans <|
    (runs_stps (q' := (175, [.ref 34, .int x1, .null, .int x3, .int x4, .int x5, .int x6, .int x7, .null, .null], [.int x1, .long (w.2 34 1), .ref 34], w)) 4 rfl).trans <|
    (runs_if_f (a := 178) (b := 182) (L := [.ref 34, .int x1, .null, .int x3, .int x4, .int x5, .int x6, .int x7, .null, .null]) (st := [.long (w.2 34 1), .ref 34]) (w := w) rfl h2).trans <|
    (runs_stps (q' := (184, [.null, .int x1, .null, .int x3, .int x4, .int x5, .int x6, .int x7, .null, .null], [.int 1, .int x1, .long (w.2 34 1), .ref 34], w)) 2 rfl).trans <|
    (runs_if_f (a := 187) (b := 193) (L := [.null, .int x1, .null, .int x3, .int x4, .int x5, .int x6, .int x7, .null, .null]) (st := [.long (w.2 34 1), .ref 34]) (w := w) rfl h3).trans <|
    (runs_stps (q' := (195, [.null, .int x1, .null, .int x3, .int x4, .int x5, .int x6, .int x7, .null, .null], [.int 2, .int x1, .long (w.2 34 1), .ref 34], w)) 2 rfl).trans <|
    (runs_if_f (a := 198) (b := 204) (L := [.null, .int x1, .null, .int x3, .int x4, .int x5, .int x6, .int x7, .null, .null]) (st := [.long (w.2 34 1), .ref 34]) (w := w) rfl h4).trans <|
    (runs_stps (q' := (206, [.null, .int x1, .null, .int x3, .int x4, .int x5, .int x6, .int x7, .null, .null], [.int 3, .int x1, .long (w.2 34 1), .ref 34], w)) 2 rfl).trans <|
    (runs_if_f (a := 209) (b := 215) (L := [.null, .int x1, .null, .int x3, .int x4, .int x5, .int x6, .int x7, .null, .null]) (st := [.long (w.2 34 1), .ref 34]) (w := w) rfl h5).trans <|
    (runs_stps (q' := (217, [.null, .int x1, .null, .int x3, .int x4, .int x5, .int x6, .int x7, .null, .null], [.int 4, .int x1, .long (w.2 34 1), .ref 34], w)) 2 rfl).trans <|
    (runs_if_t (a := 220) (b := 226) (L := [.null, .int x1, .null, .int x3, .int x4, .int x5, .int x6, .int x7, .null, .null]) (st := [.long (w.2 34 1), .ref 34]) (w := w) rfl h6).trans <|
    (runs_stps (q' := (234, [.null, .int x1, .null, .int x3, .int x4, .int x5, .int x6, .int x7, .null, .null], [.int x1], updL w 34 1 ((w.2 34 1) + 10101))) 5 rfl).trans <|
    (runs_if_t (a := 237) (b := 241) (L := [.null, .int x1, .null, .int x3, .int x4, .int x5, .int x6, .int x7, .null, .null]) (st := []) (w := updL w 34 1 ((w.2 34 1) + 10101)) rfl h7).trans <|
    (runs_stps (q' := (290, [.null, .int x1, .null, .int x3, .int x4, .int x5, .int x6, .int x7, .null, .null], [.int x3], updL w 34 1 ((w.2 34 1) + 10101))) 2 rfl).trans <|
    runs_ret rfl
theorem p_X9_rate_109TTTTFTTTTT_R {ex : Ex} {x1 : Int32} {x2 : Int32} {x3 : Int32} {x4 : Int32} {x5 : Int32} {x6 : Int32} {x7 : Int32} {x8 : Int32} {v9 : Value} {w : Wd} (h1 : (w.1 34 14) ≤ x8) (h2 : ¬ x1 = 0) (h3 : ¬ x1 = 1) (h4 : ¬ x1 = 2) (h5 : x1 = 3) (h6 : ¬ x1 = 0) (h7 : ¬ x1 = 1) (h8 : ¬ x1 = 2) (h9 : ¬ x1 = 3) (h10 : ¬ x1 = 4) : runs (T_X9_rate ex) (109, [.ref 34, .int x1, .int x2, .int x3, .int x4, .int x5, .int x6, .int x7, .int x8, v9], [], w) = some (some (.int (x3 + x7)), updL w 34 1 ((w.2 34 1) + 1011)) := 
    (runs_stps (q' := (115, [.ref 34, .int x1, .int x2, .int x3, .int x4, .int x5, .int x6, .int x7, .int x8, .null], [.int (w.1 34 14), .int x8], w)) 3 rfl).trans <|
    (runs_if_t (a := 169) (b := 118) (L := [.ref 34, .int x1, .int x2, .int x3, .int x4, .int x5, .int x6, .int x7, .int x8, .null]) (st := []) (w := w) rfl h1).trans <|
    (runs_stps (q' := (175, [.ref 34, .int x1, .null, .int x3, .int x4, .int x5, .int x6, .int x7, .null, .null], [.int x1, .long (w.2 34 1), .ref 34], w)) 4 rfl).trans <|
    (runs_if_f (a := 178) (b := 182) (L := [.ref 34, .int x1, .null, .int x3, .int x4, .int x5, .int x6, .int x7, .null, .null]) (st := [.long (w.2 34 1), .ref 34]) (w := w) rfl h2).trans <|
    (runs_stps (q' := (184, [.null, .int x1, .null, .int x3, .int x4, .int x5, .int x6, .int x7, .null, .null], [.int 1, .int x1, .long (w.2 34 1), .ref 34], w)) 2 rfl).trans <|
    (runs_if_f (a := 187) (b := 193) (L := [.null, .int x1, .null, .int x3, .int x4, .int x5, .int x6, .int x7, .null, .null]) (st := [.long (w.2 34 1), .ref 34]) (w := w) rfl h3).trans <|
    (runs_stps (q' := (195, [.null, .int x1, .null, .int x3, .int x4, .int x5, .int x6, .int x7, .null, .null], [.int 2, .int x1, .long (w.2 34 1), .ref 34], w)) 2 rfl).trans <|
    (runs_if_f (a := 198) (b := 204) (L := [.null, .int x1, .null, .int x3, .int x4, .int x5, .int x6, .int x7, .null, .null]) (st := [.long (w.2 34 1), .ref 34]) (w := w) rfl h4).trans <|
    (runs_stps (q' := (206, [.null, .int x1, .null, .int x3, .int x4, .int x5, .int x6, .int x7, .null, .null], [.int 3, .int x1, .long (w.2 34 1), .ref 34], w)) 2 rfl).trans <|
    (runs_if_t (a := 209) (b := 215) (L := [.null, .int x1, .null, .int x3, .int x4, .int x5, .int x6, .int x7, .null, .null]) (st := [.long (w.2 34 1), .ref 34]) (w := w) rfl h5).trans <|
    (runs_stps (q' := (234, [.null, .int x1, .null, .int x3, .int x4, .int x5, .int x6, .int x7, .null, .null], [.int x1], updL w 34 1 ((w.2 34 1) + 1011))) 5 rfl).trans <|
    (runs_if_f (a := 237) (b := 241) (L := [.null, .int x1, .null, .int x3, .int x4, .int x5, .int x6, .int x7, .null, .null]) (st := []) (w := updL w 34 1 ((w.2 34 1) + 1011)) rfl h6).trans <|
    (runs_stps (q' := (243, [.null, .int x1, .null, .int x3, .int x4, .int x5, .int x6, .int x7, .null, .null], [.int 1, .int x1], updL w 34 1 ((w.2 34 1) + 1011))) 2 rfl).trans <|
    (runs_if_f (a := 246) (b := 251) (L := [.null, .int x1, .null, .int x3, .int x4, .int x5, .int x6, .int x7, .null, .null]) (st := []) (w := updL w 34 1 ((w.2 34 1) + 1011)) rfl h7).trans <|
    (runs_stps (q' := (253, [.null, .int x1, .null, .int x3, .int x4, .int x5, .int x6, .int x7, .null, .null], [.int 2, .int x1], updL w 34 1 ((w.2 34 1) + 1011))) 2 rfl).trans <|
    (runs_if_f (a := 256) (b := 261) (L := [.null, .int x1, .null, .int x3, .int x4, .int x5, .int x6, .int x7, .null, .null]) (st := []) (w := updL w 34 1 ((w.2 34 1) + 1011)) rfl h8).trans <|
    (runs_stps (q' := (263, [.null, .int x1, .null, .int x3, .int x4, .int x5, .int x6, .int x7, .null, .null], [.int 3, .int x1], updL w 34 1 ((w.2 34 1) + 1011))) 2 rfl).trans <|
    (runs_if_f (a := 266) (b := 273) (L := [.null, .int x1, .null, .int x3, .int x4, .int x5, .int x6, .int x7, .null, .null]) (st := []) (w := updL w 34 1 ((w.2 34 1) + 1011)) rfl h9).trans <|
    (runs_stps (q' := (275, [.null, .int x1, .null, .int x3, .null, .int x5, .int x6, .int x7, .null, .null], [.int 4, .int x1], updL w 34 1 ((w.2 34 1) + 1011))) 2 rfl).trans <|
    (runs_if_f (a := 278) (b := 286) (L := [.null, .int x1, .null, .int x3, .null, .int x5, .int x6, .int x7, .null, .null]) (st := []) (w := updL w 34 1 ((w.2 34 1) + 1011)) rfl h10).trans <|
    (runs_stps (q' := (290, [.null, .null, .null, .int x3, .null, .null, .null, .int x7, .null, .null], [.int (x3 + x7)], updL w 34 1 ((w.2 34 1) + 1011))) 3 rfl).trans <|
    runs_ret rfl
theorem p_X9_rate_109TTTTFTTTTF_R {ex : Ex} {x1 : Int32} {x2 : Int32} {x3 : Int32} {x4 : Int32} {x5 : Int32} {x6 : Int32} {x7 : Int32} {x8 : Int32} {v9 : Value} {w : Wd} (h1 : (w.1 34 14) ≤ x8) (h2 : ¬ x1 = 0) (h3 : ¬ x1 = 1) (h4 : ¬ x1 = 2) (h5 : x1 = 3) (h6 : ¬ x1 = 0) (h7 : ¬ x1 = 1) (h8 : ¬ x1 = 2) (h9 : ¬ x1 = 3) (h10 : x1 = 4) : runs (T_X9_rate ex) (109, [.ref 34, .int x1, .int x2, .int x3, .int x4, .int x5, .int x6, .int x7, .int x8, v9], [], w) = some (some (.int (x5 + x6)), updL w 34 1 ((w.2 34 1) + 1011)) := 
    (runs_stps (q' := (115, [.ref 34, .int x1, .int x2, .int x3, .int x4, .int x5, .int x6, .int x7, .int x8, .null], [.int (w.1 34 14), .int x8], w)) 3 rfl).trans <|
    (runs_if_t (a := 169) (b := 118) (L := [.ref 34, .int x1, .int x2, .int x3, .int x4, .int x5, .int x6, .int x7, .int x8, .null]) (st := []) (w := w) rfl h1).trans <|
    (runs_stps (q' := (175, [.ref 34, .int x1, .null, .int x3, .int x4, .int x5, .int x6, .int x7, .null, .null], [.int x1, .long (w.2 34 1), .ref 34], w)) 4 rfl).trans <|
    (runs_if_f (a := 178) (b := 182) (L := [.ref 34, .int x1, .null, .int x3, .int x4, .int x5, .int x6, .int x7, .null, .null]) (st := [.long (w.2 34 1), .ref 34]) (w := w) rfl h2).trans <|
    (runs_stps (q' := (184, [.null, .int x1, .null, .int x3, .int x4, .int x5, .int x6, .int x7, .null, .null], [.int 1, .int x1, .long (w.2 34 1), .ref 34], w)) 2 rfl).trans <|
    (runs_if_f (a := 187) (b := 193) (L := [.null, .int x1, .null, .int x3, .int x4, .int x5, .int x6, .int x7, .null, .null]) (st := [.long (w.2 34 1), .ref 34]) (w := w) rfl h3).trans <|
    (runs_stps (q' := (195, [.null, .int x1, .null, .int x3, .int x4, .int x5, .int x6, .int x7, .null, .null], [.int 2, .int x1, .long (w.2 34 1), .ref 34], w)) 2 rfl).trans <|
    (runs_if_f (a := 198) (b := 204) (L := [.null, .int x1, .null, .int x3, .int x4, .int x5, .int x6, .int x7, .null, .null]) (st := [.long (w.2 34 1), .ref 34]) (w := w) rfl h4).trans <|
    (runs_stps (q' := (206, [.null, .int x1, .null, .int x3, .int x4, .int x5, .int x6, .int x7, .null, .null], [.int 3, .int x1, .long (w.2 34 1), .ref 34], w)) 2 rfl).trans <|
    (runs_if_t (a := 209) (b := 215) (L := [.null, .int x1, .null, .int x3, .int x4, .int x5, .int x6, .int x7, .null, .null]) (st := [.long (w.2 34 1), .ref 34]) (w := w) rfl h5).trans <|
    (runs_stps (q' := (234, [.null, .int x1, .null, .int x3, .int x4, .int x5, .int x6, .int x7, .null, .null], [.int x1], updL w 34 1 ((w.2 34 1) + 1011))) 5 rfl).trans <|
    (runs_if_f (a := 237) (b := 241) (L := [.null, .int x1, .null, .int x3, .int x4, .int x5, .int x6, .int x7, .null, .null]) (st := []) (w := updL w 34 1 ((w.2 34 1) + 1011)) rfl h6).trans <|
    (runs_stps (q' := (243, [.null, .int x1, .null, .int x3, .int x4, .int x5, .int x6, .int x7, .null, .null], [.int 1, .int x1], updL w 34 1 ((w.2 34 1) + 1011))) 2 rfl).trans <|
    (runs_if_f (a := 246) (b := 251) (L := [.null, .int x1, .null, .int x3, .int x4, .int x5, .int x6, .int x7, .null, .null]) (st := []) (w := updL w 34 1 ((w.2 34 1) + 1011)) rfl h7).trans <|
    (runs_stps (q' := (253, [.null, .int x1, .null, .int x3, .int x4, .int x5, .int x6, .int x7, .null, .null], [.int 2, .int x1], updL w 34 1 ((w.2 34 1) + 1011))) 2 rfl).trans <|
    (runs_if_f (a := 256) (b := 261) (L := [.null, .int x1, .null, .int x3, .int x4, .int x5, .int x6, .int x7, .null, .null]) (st := []) (w := updL w 34 1 ((w.2 34 1) + 1011)) rfl h8).trans <|
    (runs_stps (q' := (263, [.null, .int x1, .null, .int x3, .int x4, .int x5, .int x6, .int x7, .null, .null], [.int 3, .int x1], updL w 34 1 ((w.2 34 1) + 1011))) 2 rfl).trans <|
    (runs_if_f (a := 266) (b := 273) (L := [.null, .int x1, .null, .int x3, .int x4, .int x5, .int x6, .int x7, .null, .null]) (st := []) (w := updL w 34 1 ((w.2 34 1) + 1011)) rfl h9).trans <|
    (runs_stps (q' := (275, [.null, .int x1, .null, .int x3, .null, .int x5, .int x6, .int x7, .null, .null], [.int 4, .int x1], updL w 34 1 ((w.2 34 1) + 1011))) 2 rfl).trans <|
    (runs_if_t (a := 278) (b := 286) (L := [.null, .int x1, .null, .int x3, .null, .int x5, .int x6, .int x7, .null, .null]) (st := []) (w := updL w 34 1 ((w.2 34 1) + 1011)) rfl h10).trans <|
    (runs_stps (q' := (290, [.null, .int x1, .null, .int x3, .null, .int x5, .int x6, .int x7, .null, .null], [.int (x5 + x6)], updL w 34 1 ((w.2 34 1) + 1011))) 4 rfl).trans <|
    runs_ret rfl
theorem p_X9_rate_109TTTTFTTTF_R {ex : Ex} {x1 : Int32} {x2 : Int32} {x3 : Int32} {x4 : Int32} {x5 : Int32} {x6 : Int32} {x7 : Int32} {x8 : Int32} {v9 : Value} {w : Wd} (h1 : (w.1 34 14) ≤ x8) (h2 : ¬ x1 = 0) (h3 : ¬ x1 = 1) (h4 : ¬ x1 = 2) (h5 : x1 = 3) (h6 : ¬ x1 = 0) (h7 : ¬ x1 = 1) (h8 : ¬ x1 = 2) (h9 : x1 = 3) : runs (T_X9_rate ex) (109, [.ref 34, .int x1, .int x2, .int x3, .int x4, .int x5, .int x6, .int x7, .int x8, v9], [], w) = some (some (.int (2 * x4)), updL w 34 1 ((w.2 34 1) + 1011)) := 
    (runs_stps (q' := (115, [.ref 34, .int x1, .int x2, .int x3, .int x4, .int x5, .int x6, .int x7, .int x8, .null], [.int (w.1 34 14), .int x8], w)) 3 rfl).trans <|
    (runs_if_t (a := 169) (b := 118) (L := [.ref 34, .int x1, .int x2, .int x3, .int x4, .int x5, .int x6, .int x7, .int x8, .null]) (st := []) (w := w) rfl h1).trans <|
    (runs_stps (q' := (175, [.ref 34, .int x1, .null, .int x3, .int x4, .int x5, .int x6, .int x7, .null, .null], [.int x1, .long (w.2 34 1), .ref 34], w)) 4 rfl).trans <|
    (runs_if_f (a := 178) (b := 182) (L := [.ref 34, .int x1, .null, .int x3, .int x4, .int x5, .int x6, .int x7, .null, .null]) (st := [.long (w.2 34 1), .ref 34]) (w := w) rfl h2).trans <|
    (runs_stps (q' := (184, [.null, .int x1, .null, .int x3, .int x4, .int x5, .int x6, .int x7, .null, .null], [.int 1, .int x1, .long (w.2 34 1), .ref 34], w)) 2 rfl).trans <|
    (runs_if_f (a := 187) (b := 193) (L := [.null, .int x1, .null, .int x3, .int x4, .int x5, .int x6, .int x7, .null, .null]) (st := [.long (w.2 34 1), .ref 34]) (w := w) rfl h3).trans <|
    (runs_stps (q' := (195, [.null, .int x1, .null, .int x3, .int x4, .int x5, .int x6, .int x7, .null, .null], [.int 2, .int x1, .long (w.2 34 1), .ref 34], w)) 2 rfl).trans <|
    (runs_if_f (a := 198) (b := 204) (L := [.null, .int x1, .null, .int x3, .int x4, .int x5, .int x6, .int x7, .null, .null]) (st := [.long (w.2 34 1), .ref 34]) (w := w) rfl h4).trans <|
    (runs_stps (q' := (206, [.null, .int x1, .null, .int x3, .int x4, .int x5, .int x6, .int x7, .null, .null], [.int 3, .int x1, .long (w.2 34 1), .ref 34], w)) 2 rfl).trans <|
    (runs_if_t (a := 209) (b := 215) (L := [.null, .int x1, .null, .int x3, .int x4, .int x5, .int x6, .int x7, .null, .null]) (st := [.long (w.2 34 1), .ref 34]) (w := w) rfl h5).trans <|
    (runs_stps (q' := (234, [.null, .int x1, .null, .int x3, .int x4, .int x5, .int x6, .int x7, .null, .null], [.int x1], updL w 34 1 ((w.2 34 1) + 1011))) 5 rfl).trans <|
    (runs_if_f (a := 237) (b := 241) (L := [.null, .int x1, .null, .int x3, .int x4, .int x5, .int x6, .int x7, .null, .null]) (st := []) (w := updL w 34 1 ((w.2 34 1) + 1011)) rfl h6).trans <|
    (runs_stps (q' := (243, [.null, .int x1, .null, .int x3, .int x4, .int x5, .int x6, .int x7, .null, .null], [.int 1, .int x1], updL w 34 1 ((w.2 34 1) + 1011))) 2 rfl).trans <|
    (runs_if_f (a := 246) (b := 251) (L := [.null, .int x1, .null, .int x3, .int x4, .int x5, .int x6, .int x7, .null, .null]) (st := []) (w := updL w 34 1 ((w.2 34 1) + 1011)) rfl h7).trans <|
    (runs_stps (q' := (253, [.null, .int x1, .null, .int x3, .int x4, .int x5, .int x6, .int x7, .null, .null], [.int 2, .int x1], updL w 34 1 ((w.2 34 1) + 1011))) 2 rfl).trans <|
    (runs_if_f (a := 256) (b := 261) (L := [.null, .int x1, .null, .int x3, .int x4, .int x5, .int x6, .int x7, .null, .null]) (st := []) (w := updL w 34 1 ((w.2 34 1) + 1011)) rfl h8).trans <|
    (runs_stps (q' := (263, [.null, .int x1, .null, .int x3, .int x4, .int x5, .int x6, .int x7, .null, .null], [.int 3, .int x1], updL w 34 1 ((w.2 34 1) + 1011))) 2 rfl).trans <|
    (runs_if_t (a := 266) (b := 273) (L := [.null, .int x1, .null, .int x3, .int x4, .int x5, .int x6, .int x7, .null, .null]) (st := []) (w := updL w 34 1 ((w.2 34 1) + 1011)) rfl h9).trans <|
    (runs_stps (q' := (290, [.null, .int x1, .null, .int x3, .int x4, .int x5, .int x6, .int x7, .null, .null], [.int (2 * x4)], updL w 34 1 ((w.2 34 1) + 1011))) 4 rfl).trans <|
    runs_ret rfl
theorem p_X9_rate_109TTTTFTTF_R {ex : Ex} {x1 : Int32} {x2 : Int32} {x3 : Int32} {x4 : Int32} {x5 : Int32} {x6 : Int32} {x7 : Int32} {x8 : Int32} {v9 : Value} {w : Wd} (h1 : (w.1 34 14) ≤ x8) (h2 : ¬ x1 = 0) (h3 : ¬ x1 = 1) (h4 : ¬ x1 = 2) (h5 : x1 = 3) (h6 : ¬ x1 = 0) (h7 : ¬ x1 = 1) (h8 : x1 = 2) : runs (T_X9_rate ex) (109, [.ref 34, .int x1, .int x2, .int x3, .int x4, .int x5, .int x6, .int x7, .int x8, v9], [], w) = some (some (.int x5), updL w 34 1 ((w.2 34 1) + 1011)) := 
    (runs_stps (q' := (115, [.ref 34, .int x1, .int x2, .int x3, .int x4, .int x5, .int x6, .int x7, .int x8, .null], [.int (w.1 34 14), .int x8], w)) 3 rfl).trans <|
    (runs_if_t (a := 169) (b := 118) (L := [.ref 34, .int x1, .int x2, .int x3, .int x4, .int x5, .int x6, .int x7, .int x8, .null]) (st := []) (w := w) rfl h1).trans <|
    (runs_stps (q' := (175, [.ref 34, .int x1, .null, .int x3, .int x4, .int x5, .int x6, .int x7, .null, .null], [.int x1, .long (w.2 34 1), .ref 34], w)) 4 rfl).trans <|
    (runs_if_f (a := 178) (b := 182) (L := [.ref 34, .int x1, .null, .int x3, .int x4, .int x5, .int x6, .int x7, .null, .null]) (st := [.long (w.2 34 1), .ref 34]) (w := w) rfl h2).trans <|
    (runs_stps (q' := (184, [.null, .int x1, .null, .int x3, .int x4, .int x5, .int x6, .int x7, .null, .null], [.int 1, .int x1, .long (w.2 34 1), .ref 34], w)) 2 rfl).trans <|
    (runs_if_f (a := 187) (b := 193) (L := [.null, .int x1, .null, .int x3, .int x4, .int x5, .int x6, .int x7, .null, .null]) (st := [.long (w.2 34 1), .ref 34]) (w := w) rfl h3).trans <|
    (runs_stps (q' := (195, [.null, .int x1, .null, .int x3, .int x4, .int x5, .int x6, .int x7, .null, .null], [.int 2, .int x1, .long (w.2 34 1), .ref 34], w)) 2 rfl).trans <|
    (runs_if_f (a := 198) (b := 204) (L := [.null, .int x1, .null, .int x3, .int x4, .int x5, .int x6, .int x7, .null, .null]) (st := [.long (w.2 34 1), .ref 34]) (w := w) rfl h4).trans <|
    (runs_stps (q' := (206, [.null, .int x1, .null, .int x3, .int x4, .int x5, .int x6, .int x7, .null, .null], [.int 3, .int x1, .long (w.2 34 1), .ref 34], w)) 2 rfl).trans <|
    (runs_if_t (a := 209) (b := 215) (L := [.null, .int x1, .null, .int x3, .int x4, .int x5, .int x6, .int x7, .null, .null]) (st := [.long (w.2 34 1), .ref 34]) (w := w) rfl h5).trans <|
    (runs_stps (q' := (234, [.null, .int x1, .null, .int x3, .int x4, .int x5, .int x6, .int x7, .null, .null], [.int x1], updL w 34 1 ((w.2 34 1) + 1011))) 5 rfl).trans <|
    (runs_if_f (a := 237) (b := 241) (L := [.null, .int x1, .null, .int x3, .int x4, .int x5, .int x6, .int x7, .null, .null]) (st := []) (w := updL w 34 1 ((w.2 34 1) + 1011)) rfl h6).trans <|
    (runs_stps (q' := (243, [.null, .int x1, .null, .int x3, .int x4, .int x5, .int x6, .int x7, .null, .null], [.int 1, .int x1], updL w 34 1 ((w.2 34 1) + 1011))) 2 rfl).trans <|
    (runs_if_f (a := 246) (b := 251) (L := [.null, .int x1, .null, .int x3, .int x4, .int x5, .int x6, .int x7, .null, .null]) (st := []) (w := updL w 34 1 ((w.2 34 1) + 1011)) rfl h7).trans <|
    (runs_stps (q' := (253, [.null, .int x1, .null, .int x3, .int x4, .int x5, .int x6, .int x7, .null, .null], [.int 2, .int x1], updL w 34 1 ((w.2 34 1) + 1011))) 2 rfl).trans <|
    (runs_if_t (a := 256) (b := 261) (L := [.null, .int x1, .null, .int x3, .int x4, .int x5, .int x6, .int x7, .null, .null]) (st := []) (w := updL w 34 1 ((w.2 34 1) + 1011)) rfl h8).trans <|
    (runs_stps (q' := (290, [.null, .int x1, .null, .int x3, .int x4, .int x5, .int x6, .int x7, .null, .null], [.int x5], updL w 34 1 ((w.2 34 1) + 1011))) 2 rfl).trans <|
    runs_ret rfl
theorem p_X9_rate_109TTTTFTF_R {ex : Ex} {x1 : Int32} {x2 : Int32} {x3 : Int32} {x4 : Int32} {x5 : Int32} {x6 : Int32} {x7 : Int32} {x8 : Int32} {v9 : Value} {w : Wd} (h1 : (w.1 34 14) ≤ x8) (h2 : ¬ x1 = 0) (h3 : ¬ x1 = 1) (h4 : ¬ x1 = 2) (h5 : x1 = 3) (h6 : ¬ x1 = 0) (h7 : x1 = 1) : runs (T_X9_rate ex) (109, [.ref 34, .int x1, .int x2, .int x3, .int x4, .int x5, .int x6, .int x7, .int x8, v9], [], w) = some (some (.int x4), updL w 34 1 ((w.2 34 1) + 1011)) := 
    (runs_stps (q' := (115, [.ref 34, .int x1, .int x2, .int x3, .int x4, .int x5, .int x6, .int x7, .int x8, .null], [.int (w.1 34 14), .int x8], w)) 3 rfl).trans <|
    (runs_if_t (a := 169) (b := 118) (L := [.ref 34, .int x1, .int x2, .int x3, .int x4, .int x5, .int x6, .int x7, .int x8, .null]) (st := []) (w := w) rfl h1).trans <|
    (runs_stps (q' := (175, [.ref 34, .int x1, .null, .int x3, .int x4, .int x5, .int x6, .int x7, .null, .null], [.int x1, .long (w.2 34 1), .ref 34], w)) 4 rfl).trans <|
    (runs_if_f (a := 178) (b := 182) (L := [.ref 34, .int x1, .null, .int x3, .int x4, .int x5, .int x6, .int x7, .null, .null]) (st := [.long (w.2 34 1), .ref 34]) (w := w) rfl h2).trans <|
    (runs_stps (q' := (184, [.null, .int x1, .null, .int x3, .int x4, .int x5, .int x6, .int x7, .null, .null], [.int 1, .int x1, .long (w.2 34 1), .ref 34], w)) 2 rfl).trans <|
    (runs_if_f (a := 187) (b := 193) (L := [.null, .int x1, .null, .int x3, .int x4, .int x5, .int x6, .int x7, .null, .null]) (st := [.long (w.2 34 1), .ref 34]) (w := w) rfl h3).trans <|
    (runs_stps (q' := (195, [.null, .int x1, .null, .int x3, .int x4, .int x5, .int x6, .int x7, .null, .null], [.int 2, .int x1, .long (w.2 34 1), .ref 34], w)) 2 rfl).trans <|
    (runs_if_f (a := 198) (b := 204) (L := [.null, .int x1, .null, .int x3, .int x4, .int x5, .int x6, .int x7, .null, .null]) (st := [.long (w.2 34 1), .ref 34]) (w := w) rfl h4).trans <|
    (runs_stps (q' := (206, [.null, .int x1, .null, .int x3, .int x4, .int x5, .int x6, .int x7, .null, .null], [.int 3, .int x1, .long (w.2 34 1), .ref 34], w)) 2 rfl).trans <|
    (runs_if_t (a := 209) (b := 215) (L := [.null, .int x1, .null, .int x3, .int x4, .int x5, .int x6, .int x7, .null, .null]) (st := [.long (w.2 34 1), .ref 34]) (w := w) rfl h5).trans <|
    (runs_stps (q' := (234, [.null, .int x1, .null, .int x3, .int x4, .int x5, .int x6, .int x7, .null, .null], [.int x1], updL w 34 1 ((w.2 34 1) + 1011))) 5 rfl).trans <|
    (runs_if_f (a := 237) (b := 241) (L := [.null, .int x1, .null, .int x3, .int x4, .int x5, .int x6, .int x7, .null, .null]) (st := []) (w := updL w 34 1 ((w.2 34 1) + 1011)) rfl h6).trans <|
    (runs_stps (q' := (243, [.null, .int x1, .null, .int x3, .int x4, .int x5, .int x6, .int x7, .null, .null], [.int 1, .int x1], updL w 34 1 ((w.2 34 1) + 1011))) 2 rfl).trans <|
    (runs_if_t (a := 246) (b := 251) (L := [.null, .int x1, .null, .int x3, .int x4, .int x5, .int x6, .int x7, .null, .null]) (st := []) (w := updL w 34 1 ((w.2 34 1) + 1011)) rfl h7).trans <|
    (runs_stps (q' := (290, [.null, .int x1, .null, .int x3, .int x4, .int x5, .int x6, .int x7, .null, .null], [.int x4], updL w 34 1 ((w.2 34 1) + 1011))) 2 rfl).trans <|
    runs_ret rfl
theorem p_X9_rate_109TTTTFF_R {ex : Ex} {x1 : Int32} {x2 : Int32} {x3 : Int32} {x4 : Int32} {x5 : Int32} {x6 : Int32} {x7 : Int32} {x8 : Int32} {v9 : Value} {w : Wd} (h1 : (w.1 34 14) ≤ x8) (h2 : ¬ x1 = 0) (h3 : ¬ x1 = 1) (h4 : ¬ x1 = 2) (h5 : x1 = 3) (h6 : x1 = 0) : runs (T_X9_rate ex) (109, [.ref 34, .int x1, .int x2, .int x3, .int x4, .int x5, .int x6, .int x7, .int x8, v9], [], w) = some (some (.int x3), updL w 34 1 ((w.2 34 1) + 1011)) := 
    (runs_stps (q' := (115, [.ref 34, .int x1, .int x2, .int x3, .int x4, .int x5, .int x6, .int x7, .int x8, .null], [.int (w.1 34 14), .int x8], w)) 3 rfl).trans <|
    (runs_if_t (a := 169) (b := 118) (L := [.ref 34, .int x1, .int x2, .int x3, .int x4, .int x5, .int x6, .int x7, .int x8, .null]) (st := []) (w := w) rfl h1).trans <|
    (runs_stps (q' := (175, [.ref 34, .int x1, .null, .int x3, .int x4, .int x5, .int x6, .int x7, .null, .null], [.int x1, .long (w.2 34 1), .ref 34], w)) 4 rfl).trans <|
    (runs_if_f (a := 178) (b := 182) (L := [.ref 34, .int x1, .null, .int x3, .int x4, .int x5, .int x6, .int x7, .null, .null]) (st := [.long (w.2 34 1), .ref 34]) (w := w) rfl h2).trans <|
    (runs_stps (q' := (184, [.null, .int x1, .null, .int x3, .int x4, .int x5, .int x6, .int x7, .null, .null], [.int 1, .int x1, .long (w.2 34 1), .ref 34], w)) 2 rfl).trans <|
    (runs_if_f (a := 187) (b := 193) (L := [.null, .int x1, .null, .int x3, .int x4, .int x5, .int x6, .int x7, .null, .null]) (st := [.long (w.2 34 1), .ref 34]) (w := w) rfl h3).trans <|
    (runs_stps (q' := (195, [.null, .int x1, .null, .int x3, .int x4, .int x5, .int x6, .int x7, .null, .null], [.int 2, .int x1, .long (w.2 34 1), .ref 34], w)) 2 rfl).trans <|
    (runs_if_f (a := 198) (b := 204) (L := [.null, .int x1, .null, .int x3, .int x4, .int x5, .int x6, .int x7, .null, .null]) (st := [.long (w.2 34 1), .ref 34]) (w := w) rfl h4).trans <|
    (runs_stps (q' := (206, [.null, .int x1, .null, .int x3, .int x4, .int x5, .int x6, .int x7, .null, .null], [.int 3, .int x1, .long (w.2 34 1), .ref 34], w)) 2 rfl).trans <|
    (runs_if_t (a := 209) (b := 215) (L := [.null, .int x1, .null, .int x3, .int x4, .int x5, .int x6, .int x7, .null, .null]) (st := [.long (w.2 34 1), .ref 34]) (w := w) rfl h5).trans <|
    (runs_stps (q' := (234, [.null, .int x1, .null, .int x3, .int x4, .int x5, .int x6, .int x7, .null, .null], [.int x1], updL w 34 1 ((w.2 34 1) + 1011))) 5 rfl).trans <|
    (runs_if_t (a := 237) (b := 241) (L := [.null, .int x1, .null, .int x3, .int x4, .int x5, .int x6, .int x7, .null, .null]) (st := []) (w := updL w 34 1 ((w.2 34 1) + 1011)) rfl h6).trans <|
    (runs_stps (q' := (290, [.null, .int x1, .null, .int x3, .int x4, .int x5, .int x6, .int x7, .null, .null], [.int x3], updL w 34 1 ((w.2 34 1) + 1011))) 2 rfl).trans <|
    runs_ret rfl
theorem p_X9_rate_109TTTFTTTTT_R {ex : Ex} {x1 : Int32} {x2 : Int32} {x3 : Int32} {x4 : Int32} {x5 : Int32} {x6 : Int32} {x7 : Int32} {x8 : Int32} {v9 : Value} {w : Wd} (h1 : (w.1 34 14) ≤ x8) (h2 : ¬ x1 = 0) (h3 : ¬ x1 = 1) (h4 : x1 = 2) (h5 : ¬ x1 = 0) (h6 : ¬ x1 = 1) (h7 : ¬ x1 = 2) (h8 : ¬ x1 = 3) (h9 : ¬ x1 = 4) : runs (T_X9_rate ex) (109, [.ref 34, .int x1, .int x2, .int x3, .int x4, .int x5, .int x6, .int x7, .int x8, v9], [], w) = some (some (.int (x3 + x7)), updL w 34 1 ((w.2 34 1) + 101)) := 
    (runs_stps (q' := (115, [.ref 34, .int x1, .int x2, .int x3, .int x4, .int x5, .int x6, .int x7, .int x8, .null], [.int (w.1 34 14), .int x8], w)) 3 rfl).trans <|
    (runs_if_t (a := 169) (b := 118) (L := [.ref 34, .int x1, .int x2, .int x3, .int x4, .int x5, .int x6, .int x7, .int x8, .null]) (st := []) (w := w) rfl h1).trans <|
    (runs_stps (q' := (175, [.ref 34, .int x1, .null, .int x3, .int x4, .int x5, .int x6, .int x7, .null, .null], [.int x1, .long (w.2 34 1), .ref 34], w)) 4 rfl).trans <|
    (runs_if_f (a := 178) (b := 182) (L := [.ref 34, .int x1, .null, .int x3, .int x4, .int x5, .int x6, .int x7, .null, .null]) (st := [.long (w.2 34 1), .ref 34]) (w := w) rfl h2).trans <|
    (runs_stps (q' := (184, [.null, .int x1, .null, .int x3, .int x4, .int x5, .int x6, .int x7, .null, .null], [.int 1, .int x1, .long (w.2 34 1), .ref 34], w)) 2 rfl).trans <|
    (runs_if_f (a := 187) (b := 193) (L := [.null, .int x1, .null, .int x3, .int x4, .int x5, .int x6, .int x7, .null, .null]) (st := [.long (w.2 34 1), .ref 34]) (w := w) rfl h3).trans <|
    (runs_stps (q' := (195, [.null, .int x1, .null, .int x3, .int x4, .int x5, .int x6, .int x7, .null, .null], [.int 2, .int x1, .long (w.2 34 1), .ref 34], w)) 2 rfl).trans <|
    (runs_if_t (a := 198) (b := 204) (L := [.null, .int x1, .null, .int x3, .int x4, .int x5, .int x6, .int x7, .null, .null]) (st := [.long (w.2 34 1), .ref 34]) (w := w) rfl h4).trans <|
    (runs_stps (q' := (234, [.null, .int x1, .null, .int x3, .int x4, .int x5, .int x6, .int x7, .null, .null], [.int x1], updL w 34 1 ((w.2 34 1) + 101))) 5 rfl).trans <|
    (runs_if_f (a := 237) (b := 241) (L := [.null, .int x1, .null, .int x3, .int x4, .int x5, .int x6, .int x7, .null, .null]) (st := []) (w := updL w 34 1 ((w.2 34 1) + 101)) rfl h5).trans <|
    (runs_stps (q' := (243, [.null, .int x1, .null, .int x3, .int x4, .int x5, .int x6, .int x7, .null, .null], [.int 1, .int x1], updL w 34 1 ((w.2 34 1) + 101))) 2 rfl).trans <|
    (runs_if_f (a := 246) (b := 251) (L := [.null, .int x1, .null, .int x3, .int x4, .int x5, .int x6, .int x7, .null, .null]) (st := []) (w := updL w 34 1 ((w.2 34 1) + 101)) rfl h6).trans <|
    (runs_stps (q' := (253, [.null, .int x1, .null, .int x3, .int x4, .int x5, .int x6, .int x7, .null, .null], [.int 2, .int x1], updL w 34 1 ((w.2 34 1) + 101))) 2 rfl).trans <|
    (runs_if_f (a := 256) (b := 261) (L := [.null, .int x1, .null, .int x3, .int x4, .int x5, .int x6, .int x7, .null, .null]) (st := []) (w := updL w 34 1 ((w.2 34 1) + 101)) rfl h7).trans <|
    (runs_stps (q' := (263, [.null, .int x1, .null, .int x3, .int x4, .int x5, .int x6, .int x7, .null, .null], [.int 3, .int x1], updL w 34 1 ((w.2 34 1) + 101))) 2 rfl).trans <|
    (runs_if_f (a := 266) (b := 273) (L := [.null, .int x1, .null, .int x3, .int x4, .int x5, .int x6, .int x7, .null, .null]) (st := []) (w := updL w 34 1 ((w.2 34 1) + 101)) rfl h8).trans <|
    (runs_stps (q' := (275, [.null, .int x1, .null, .int x3, .null, .int x5, .int x6, .int x7, .null, .null], [.int 4, .int x1], updL w 34 1 ((w.2 34 1) + 101))) 2 rfl).trans <|
    (runs_if_f (a := 278) (b := 286) (L := [.null, .int x1, .null, .int x3, .null, .int x5, .int x6, .int x7, .null, .null]) (st := []) (w := updL w 34 1 ((w.2 34 1) + 101)) rfl h9).trans <|
    (runs_stps (q' := (290, [.null, .null, .null, .int x3, .null, .null, .null, .int x7, .null, .null], [.int (x3 + x7)], updL w 34 1 ((w.2 34 1) + 101))) 3 rfl).trans <|
    runs_ret rfl
theorem p_X9_rate_109TTTFTTTTF_R {ex : Ex} {x1 : Int32} {x2 : Int32} {x3 : Int32} {x4 : Int32} {x5 : Int32} {x6 : Int32} {x7 : Int32} {x8 : Int32} {v9 : Value} {w : Wd} (h1 : (w.1 34 14) ≤ x8) (h2 : ¬ x1 = 0) (h3 : ¬ x1 = 1) (h4 : x1 = 2) (h5 : ¬ x1 = 0) (h6 : ¬ x1 = 1) (h7 : ¬ x1 = 2) (h8 : ¬ x1 = 3) (h9 : x1 = 4) : runs (T_X9_rate ex) (109, [.ref 34, .int x1, .int x2, .int x3, .int x4, .int x5, .int x6, .int x7, .int x8, v9], [], w) = some (some (.int (x5 + x6)), updL w 34 1 ((w.2 34 1) + 101)) := 
    (runs_stps (q' := (115, [.ref 34, .int x1, .int x2, .int x3, .int x4, .int x5, .int x6, .int x7, .int x8, .null], [.int (w.1 34 14), .int x8], w)) 3 rfl).trans <|
    (runs_if_t (a := 169) (b := 118) (L := [.ref 34, .int x1, .int x2, .int x3, .int x4, .int x5, .int x6, .int x7, .int x8, .null]) (st := []) (w := w) rfl h1).trans <|
    (runs_stps (q' := (175, [.ref 34, .int x1, .null, .int x3, .int x4, .int x5, .int x6, .int x7, .null, .null], [.int x1, .long (w.2 34 1), .ref 34], w)) 4 rfl).trans <|
    (runs_if_f (a := 178) (b := 182) (L := [.ref 34, .int x1, .null, .int x3, .int x4, .int x5, .int x6, .int x7, .null, .null]) (st := [.long (w.2 34 1), .ref 34]) (w := w) rfl h2).trans <|
    (runs_stps (q' := (184, [.null, .int x1, .null, .int x3, .int x4, .int x5, .int x6, .int x7, .null, .null], [.int 1, .int x1, .long (w.2 34 1), .ref 34], w)) 2 rfl).trans <|
    (runs_if_f (a := 187) (b := 193) (L := [.null, .int x1, .null, .int x3, .int x4, .int x5, .int x6, .int x7, .null, .null]) (st := [.long (w.2 34 1), .ref 34]) (w := w) rfl h3).trans <|
    (runs_stps (q' := (195, [.null, .int x1, .null, .int x3, .int x4, .int x5, .int x6, .int x7, .null, .null], [.int 2, .int x1, .long (w.2 34 1), .ref 34], w)) 2 rfl).trans <|
    (runs_if_t (a := 198) (b := 204) (L := [.null, .int x1, .null, .int x3, .int x4, .int x5, .int x6, .int x7, .null, .null]) (st := [.long (w.2 34 1), .ref 34]) (w := w) rfl h4).trans <|
    (runs_stps (q' := (234, [.null, .int x1, .null, .int x3, .int x4, .int x5, .int x6, .int x7, .null, .null], [.int x1], updL w 34 1 ((w.2 34 1) + 101))) 5 rfl).trans <|
    (runs_if_f (a := 237) (b := 241) (L := [.null, .int x1, .null, .int x3, .int x4, .int x5, .int x6, .int x7, .null, .null]) (st := []) (w := updL w 34 1 ((w.2 34 1) + 101)) rfl h5).trans <|
    (runs_stps (q' := (243, [.null, .int x1, .null, .int x3, .int x4, .int x5, .int x6, .int x7, .null, .null], [.int 1, .int x1], updL w 34 1 ((w.2 34 1) + 101))) 2 rfl).trans <|
    (runs_if_f (a := 246) (b := 251) (L := [.null, .int x1, .null, .int x3, .int x4, .int x5, .int x6, .int x7, .null, .null]) (st := []) (w := updL w 34 1 ((w.2 34 1) + 101)) rfl h6).trans <|
    (runs_stps (q' := (253, [.null, .int x1, .null, .int x3, .int x4, .int x5, .int x6, .int x7, .null, .null], [.int 2, .int x1], updL w 34 1 ((w.2 34 1) + 101))) 2 rfl).trans <|
    (runs_if_f (a := 256) (b := 261) (L := [.null, .int x1, .null, .int x3, .int x4, .int x5, .int x6, .int x7, .null, .null]) (st := []) (w := updL w 34 1 ((w.2 34 1) + 101)) rfl h7).trans <|
    (runs_stps (q' := (263, [.null, .int x1, .null, .int x3, .int x4, .int x5, .int x6, .int x7, .null, .null], [.int 3, .int x1], updL w 34 1 ((w.2 34 1) + 101))) 2 rfl).trans <|
    (runs_if_f (a := 266) (b := 273) (L := [.null, .int x1, .null, .int x3, .int x4, .int x5, .int x6, .int x7, .null, .null]) (st := []) (w := updL w 34 1 ((w.2 34 1) + 101)) rfl h8).trans <|
    (runs_stps (q' := (275, [.null, .int x1, .null, .int x3, .null, .int x5, .int x6, .int x7, .null, .null], [.int 4, .int x1], updL w 34 1 ((w.2 34 1) + 101))) 2 rfl).trans <|
    (runs_if_t (a := 278) (b := 286) (L := [.null, .int x1, .null, .int x3, .null, .int x5, .int x6, .int x7, .null, .null]) (st := []) (w := updL w 34 1 ((w.2 34 1) + 101)) rfl h9).trans <|
    (runs_stps (q' := (290, [.null, .int x1, .null, .int x3, .null, .int x5, .int x6, .int x7, .null, .null], [.int (x5 + x6)], updL w 34 1 ((w.2 34 1) + 101))) 4 rfl).trans <|
    runs_ret rfl
theorem p_X9_rate_109TTTFTTTF_R {ex : Ex} {x1 : Int32} {x2 : Int32} {x3 : Int32} {x4 : Int32} {x5 : Int32} {x6 : Int32} {x7 : Int32} {x8 : Int32} {v9 : Value} {w : Wd} (h1 : (w.1 34 14) ≤ x8) (h2 : ¬ x1 = 0) (h3 : ¬ x1 = 1) (h4 : x1 = 2) (h5 : ¬ x1 = 0) (h6 : ¬ x1 = 1) (h7 : ¬ x1 = 2) (h8 : x1 = 3) : runs (T_X9_rate ex) (109, [.ref 34, .int x1, .int x2, .int x3, .int x4, .int x5, .int x6, .int x7, .int x8, v9], [], w) = some (some (.int (2 * x4)), updL w 34 1 ((w.2 34 1) + 101)) := 
    (runs_stps (q' := (115, [.ref 34, .int x1, .int x2, .int x3, .int x4, .int x5, .int x6, .int x7, .int x8, .null], [.int (w.1 34 14), .int x8], w)) 3 rfl).trans <|
    (runs_if_t (a := 169) (b := 118) (L := [.ref 34, .int x1, .int x2, .int x3, .int x4, .int x5, .int x6, .int x7, .int x8, .null]) (st := []) (w := w) rfl h1).trans <|
    (runs_stps (q' := (175, [.ref 34, .int x1, .null, .int x3, .int x4, .int x5, .int x6, .int x7, .null, .null], [.int x1, .long (w.2 34 1), .ref 34], w)) 4 rfl).trans <|
    (runs_if_f (a := 178) (b := 182) (L := [.ref 34, .int x1, .null, .int x3, .int x4, .int x5, .int x6, .int x7, .null, .null]) (st := [.long (w.2 34 1), .ref 34]) (w := w) rfl h2).trans <|
    (runs_stps (q' := (184, [.null, .int x1, .null, .int x3, .int x4, .int x5, .int x6, .int x7, .null, .null], [.int 1, .int x1, .long (w.2 34 1), .ref 34], w)) 2 rfl).trans <|
    (runs_if_f (a := 187) (b := 193) (L := [.null, .int x1, .null, .int x3, .int x4, .int x5, .int x6, .int x7, .null, .null]) (st := [.long (w.2 34 1), .ref 34]) (w := w) rfl h3).trans <|
    (runs_stps (q' := (195, [.null, .int x1, .null, .int x3, .int x4, .int x5, .int x6, .int x7, .null, .null], [.int 2, .int x1, .long (w.2 34 1), .ref 34], w)) 2 rfl).trans <|
    (runs_if_t (a := 198) (b := 204) (L := [.null, .int x1, .null, .int x3, .int x4, .int x5, .int x6, .int x7, .null, .null]) (st := [.long (w.2 34 1), .ref 34]) (w := w) rfl h4).trans <|
    (runs_stps (q' := (234, [.null, .int x1, .null, .int x3, .int x4, .int x5, .int x6, .int x7, .null, .null], [.int x1], updL w 34 1 ((w.2 34 1) + 101))) 5 rfl).trans <|
    (runs_if_f (a := 237) (b := 241) (L := [.null, .int x1, .null, .int x3, .int x4, .int x5, .int x6, .int x7, .null, .null]) (st := []) (w := updL w 34 1 ((w.2 34 1) + 101)) rfl h5).trans <|
    (runs_stps (q' := (243, [.null, .int x1, .null, .int x3, .int x4, .int x5, .int x6, .int x7, .null, .null], [.int 1, .int x1], updL w 34 1 ((w.2 34 1) + 101))) 2 rfl).trans <|
    (runs_if_f (a := 246) (b := 251) (L := [.null, .int x1, .null, .int x3, .int x4, .int x5, .int x6, .int x7, .null, .null]) (st := []) (w := updL w 34 1 ((w.2 34 1) + 101)) rfl h6).trans <|
    (runs_stps (q' := (253, [.null, .int x1, .null, .int x3, .int x4, .int x5, .int x6, .int x7, .null, .null], [.int 2, .int x1], updL w 34 1 ((w.2 34 1) + 101))) 2 rfl).trans <|
    (runs_if_f (a := 256) (b := 261) (L := [.null, .int x1, .null, .int x3, .int x4, .int x5, .int x6, .int x7, .null, .null]) (st := []) (w := updL w 34 1 ((w.2 34 1) + 101)) rfl h7).trans <|
    (runs_stps (q' := (263, [.null, .int x1, .null, .int x3, .int x4, .int x5, .int x6, .int x7, .null, .null], [.int 3, .int x1], updL w 34 1 ((w.2 34 1) + 101))) 2 rfl).trans <|
    (runs_if_t (a := 266) (b := 273) (L := [.null, .int x1, .null, .int x3, .int x4, .int x5, .int x6, .int x7, .null, .null]) (st := []) (w := updL w 34 1 ((w.2 34 1) + 101)) rfl h8).trans <|
    (runs_stps (q' := (290, [.null, .int x1, .null, .int x3, .int x4, .int x5, .int x6, .int x7, .null, .null], [.int (2 * x4)], updL w 34 1 ((w.2 34 1) + 101))) 4 rfl).trans <|
    runs_ret rfl
theorem p_X9_rate_109TTTFTTF_R {ex : Ex} {x1 : Int32} {x2 : Int32} {x3 : Int32} {x4 : Int32} {x5 : Int32} {x6 : Int32} {x7 : Int32} {x8 : Int32} {v9 : Value} {w : Wd} (h1 : (w.1 34 14) ≤ x8) (h2 : ¬ x1 = 0) (h3 : ¬ x1 = 1) (h4 : x1 = 2) (h5 : ¬ x1 = 0) (h6 : ¬ x1 = 1) (h7 : x1 = 2) : runs (T_X9_rate ex) (109, [.ref 34, .int x1, .int x2, .int x3, .int x4, .int x5, .int x6, .int x7, .int x8, v9], [], w) = some (some (.int x5), updL w 34 1 ((w.2 34 1) + 101)) := 
    (runs_stps (q' := (115, [.ref 34, .int x1, .int x2, .int x3, .int x4, .int x5, .int x6, .int x7, .int x8, .null], [.int (w.1 34 14), .int x8], w)) 3 rfl).trans <|
    (runs_if_t (a := 169) (b := 118) (L := [.ref 34, .int x1, .int x2, .int x3, .int x4, .int x5, .int x6, .int x7, .int x8, .null]) (st := []) (w := w) rfl h1).trans <|
    (runs_stps (q' := (175, [.ref 34, .int x1, .null, .int x3, .int x4, .int x5, .int x6, .int x7, .null, .null], [.int x1, .long (w.2 34 1), .ref 34], w)) 4 rfl).trans <|
    (runs_if_f (a := 178) (b := 182) (L := [.ref 34, .int x1, .null, .int x3, .int x4, .int x5, .int x6, .int x7, .null, .null]) (st := [.long (w.2 34 1), .ref 34]) (w := w) rfl h2).trans <|
    (runs_stps (q' := (184, [.null, .int x1, .null, .int x3, .int x4, .int x5, .int x6, .int x7, .null, .null], [.int 1, .int x1, .long (w.2 34 1), .ref 34], w)) 2 rfl).trans <|
    (runs_if_f (a := 187) (b := 193) (L := [.null, .int x1, .null, .int x3, .int x4, .int x5, .int x6, .int x7, .null, .null]) (st := [.long (w.2 34 1), .ref 34]) (w := w) rfl h3).trans <|
    (runs_stps (q' := (195, [.null, .int x1, .null, .int x3, .int x4, .int x5, .int x6, .int x7, .null, .null], [.int 2, .int x1, .long (w.2 34 1), .ref 34], w)) 2 rfl).trans <|
    (runs_if_t (a := 198) (b := 204) (L := [.null, .int x1, .null, .int x3, .int x4, .int x5, .int x6, .int x7, .null, .null]) (st := [.long (w.2 34 1), .ref 34]) (w := w) rfl h4).trans <|
    (runs_stps (q' := (234, [.null, .int x1, .null, .int x3, .int x4, .int x5, .int x6, .int x7, .null, .null], [.int x1], updL w 34 1 ((w.2 34 1) + 101))) 5 rfl).trans <|
    (runs_if_f (a := 237) (b := 241) (L := [.null, .int x1, .null, .int x3, .int x4, .int x5, .int x6, .int x7, .null, .null]) (st := []) (w := updL w 34 1 ((w.2 34 1) + 101)) rfl h5).trans <|
    (runs_stps (q' := (243, [.null, .int x1, .null, .int x3, .int x4, .int x5, .int x6, .int x7, .null, .null], [.int 1, .int x1], updL w 34 1 ((w.2 34 1) + 101))) 2 rfl).trans <|
    (runs_if_f (a := 246) (b := 251) (L := [.null, .int x1, .null, .int x3, .int x4, .int x5, .int x6, .int x7, .null, .null]) (st := []) (w := updL w 34 1 ((w.2 34 1) + 101)) rfl h6).trans <|
    (runs_stps (q' := (253, [.null, .int x1, .null, .int x3, .int x4, .int x5, .int x6, .int x7, .null, .null], [.int 2, .int x1], updL w 34 1 ((w.2 34 1) + 101))) 2 rfl).trans <|
    (runs_if_t (a := 256) (b := 261) (L := [.null, .int x1, .null, .int x3, .int x4, .int x5, .int x6, .int x7, .null, .null]) (st := []) (w := updL w 34 1 ((w.2 34 1) + 101)) rfl h7).trans <|
    (runs_stps (q' := (290, [.null, .int x1, .null, .int x3, .int x4, .int x5, .int x6, .int x7, .null, .null], [.int x5], updL w 34 1 ((w.2 34 1) + 101))) 2 rfl).trans <|
    runs_ret rfl
theorem p_X9_rate_109TTTFTF_R {ex : Ex} {x1 : Int32} {x2 : Int32} {x3 : Int32} {x4 : Int32} {x5 : Int32} {x6 : Int32} {x7 : Int32} {x8 : Int32} {v9 : Value} {w : Wd} (h1 : (w.1 34 14) ≤ x8) (h2 : ¬ x1 = 0) (h3 : ¬ x1 = 1) (h4 : x1 = 2) (h5 : ¬ x1 = 0) (h6 : x1 = 1) : runs (T_X9_rate ex) (109, [.ref 34, .int x1, .int x2, .int x3, .int x4, .int x5, .int x6, .int x7, .int x8, v9], [], w) = some (some (.int x4), updL w 34 1 ((w.2 34 1) + 101)) := 
    (runs_stps (q' := (115, [.ref 34, .int x1, .int x2, .int x3, .int x4, .int x5, .int x6, .int x7, .int x8, .null], [.int (w.1 34 14), .int x8], w)) 3 rfl).trans <|
    (runs_if_t (a := 169) (b := 118) (L := [.ref 34, .int x1, .int x2, .int x3, .int x4, .int x5, .int x6, .int x7, .int x8, .null]) (st := []) (w := w) rfl h1).trans <|
    (runs_stps (q' := (175, [.ref 34, .int x1, .null, .int x3, .int x4, .int x5, .int x6, .int x7, .null, .null], [.int x1, .long (w.2 34 1), .ref 34], w)) 4 rfl).trans <|
    (runs_if_f (a := 178) (b := 182) (L := [.ref 34, .int x1, .null, .int x3, .int x4, .int x5, .int x6, .int x7, .null, .null]) (st := [.long (w.2 34 1), .ref 34]) (w := w) rfl h2).trans <|
    (runs_stps (q' := (184, [.null, .int x1, .null, .int x3, .int x4, .int x5, .int x6, .int x7, .null, .null], [.int 1, .int x1, .long (w.2 34 1), .ref 34], w)) 2 rfl).trans <|
    (runs_if_f (a := 187) (b := 193) (L := [.null, .int x1, .null, .int x3, .int x4, .int x5, .int x6, .int x7, .null, .null]) (st := [.long (w.2 34 1), .ref 34]) (w := w) rfl h3).trans <|
    (runs_stps (q' := (195, [.null, .int x1, .null, .int x3, .int x4, .int x5, .int x6, .int x7, .null, .null], [.int 2, .int x1, .long (w.2 34 1), .ref 34], w)) 2 rfl).trans <|
    (runs_if_t (a := 198) (b := 204) (L := [.null, .int x1, .null, .int x3, .int x4, .int x5, .int x6, .int x7, .null, .null]) (st := [.long (w.2 34 1), .ref 34]) (w := w) rfl h4).trans <|
    (runs_stps (q' := (234, [.null, .int x1, .null, .int x3, .int x4, .int x5, .int x6, .int x7, .null, .null], [.int x1], updL w 34 1 ((w.2 34 1) + 101))) 5 rfl).trans <|
    (runs_if_f (a := 237) (b := 241) (L := [.null, .int x1, .null, .int x3, .int x4, .int x5, .int x6, .int x7, .null, .null]) (st := []) (w := updL w 34 1 ((w.2 34 1) + 101)) rfl h5).trans <|
    (runs_stps (q' := (243, [.null, .int x1, .null, .int x3, .int x4, .int x5, .int x6, .int x7, .null, .null], [.int 1, .int x1], updL w 34 1 ((w.2 34 1) + 101))) 2 rfl).trans <|
    (runs_if_t (a := 246) (b := 251) (L := [.null, .int x1, .null, .int x3, .int x4, .int x5, .int x6, .int x7, .null, .null]) (st := []) (w := updL w 34 1 ((w.2 34 1) + 101)) rfl h6).trans <|
    (runs_stps (q' := (290, [.null, .int x1, .null, .int x3, .int x4, .int x5, .int x6, .int x7, .null, .null], [.int x4], updL w 34 1 ((w.2 34 1) + 101))) 2 rfl).trans <|
    runs_ret rfl
theorem p_X9_rate_109TTTFF_R {ex : Ex} {x1 : Int32} {x2 : Int32} {x3 : Int32} {x4 : Int32} {x5 : Int32} {x6 : Int32} {x7 : Int32} {x8 : Int32} {v9 : Value} {w : Wd} (h1 : (w.1 34 14) ≤ x8) (h2 : ¬ x1 = 0) (h3 : ¬ x1 = 1) (h4 : x1 = 2) (h5 : x1 = 0) : runs (T_X9_rate ex) (109, [.ref 34, .int x1, .int x2, .int x3, .int x4, .int x5, .int x6, .int x7, .int x8, v9], [], w) = some (some (.int x3), updL w 34 1 ((w.2 34 1) + 101)) := 
    (runs_stps (q' := (115, [.ref 34, .int x1, .int x2, .int x3, .int x4, .int x5, .int x6, .int x7, .int x8, .null], [.int (w.1 34 14), .int x8], w)) 3 rfl).trans <|
    (runs_if_t (a := 169) (b := 118) (L := [.ref 34, .int x1, .int x2, .int x3, .int x4, .int x5, .int x6, .int x7, .int x8, .null]) (st := []) (w := w) rfl h1).trans <|
    (runs_stps (q' := (175, [.ref 34, .int x1, .null, .int x3, .int x4, .int x5, .int x6, .int x7, .null, .null], [.int x1, .long (w.2 34 1), .ref 34], w)) 4 rfl).trans <|
    (runs_if_f (a := 178) (b := 182) (L := [.ref 34, .int x1, .null, .int x3, .int x4, .int x5, .int x6, .int x7, .null, .null]) (st := [.long (w.2 34 1), .ref 34]) (w := w) rfl h2).trans <|
    (runs_stps (q' := (184, [.null, .int x1, .null, .int x3, .int x4, .int x5, .int x6, .int x7, .null, .null], [.int 1, .int x1, .long (w.2 34 1), .ref 34], w)) 2 rfl).trans <|
    (runs_if_f (a := 187) (b := 193) (L := [.null, .int x1, .null, .int x3, .int x4, .int x5, .int x6, .int x7, .null, .null]) (st := [.long (w.2 34 1), .ref 34]) (w := w) rfl h3).trans <|
    (runs_stps (q' := (195, [.null, .int x1, .null, .int x3, .int x4, .int x5, .int x6, .int x7, .null, .null], [.int 2, .int x1, .long (w.2 34 1), .ref 34], w)) 2 rfl).trans <|
    (runs_if_t (a := 198) (b := 204) (L := [.null, .int x1, .null, .int x3, .int x4, .int x5, .int x6, .int x7, .null, .null]) (st := [.long (w.2 34 1), .ref 34]) (w := w) rfl h4).trans <|
    (runs_stps (q' := (234, [.null, .int x1, .null, .int x3, .int x4, .int x5, .int x6, .int x7, .null, .null], [.int x1], updL w 34 1 ((w.2 34 1) + 101))) 5 rfl).trans <|
    (runs_if_t (a := 237) (b := 241) (L := [.null, .int x1, .null, .int x3, .int x4, .int x5, .int x6, .int x7, .null, .null]) (st := []) (w := updL w 34 1 ((w.2 34 1) + 101)) rfl h5).trans <|
    (runs_stps (q' := (290, [.null, .int x1, .null, .int x3, .int x4, .int x5, .int x6, .int x7, .null, .null], [.int x3], updL w 34 1 ((w.2 34 1) + 101))) 2 rfl).trans <|
    runs_ret rfl
theorem p_X9_rate_109TTFTTTTT_R {ex : Ex} {x1 : Int32} {x2 : Int32} {x3 : Int32} {x4 : Int32} {x5 : Int32} {x6 : Int32} {x7 : Int32} {x8 : Int32} {v9 : Value} {w : Wd} (h1 : (w.1 34 14) ≤ x8) (h2 : ¬ x1 = 0) (h3 : x1 = 1) (h4 : ¬ x1 = 0) (h5 : ¬ x1 = 1) (h6 : ¬ x1 = 2) (h7 : ¬ x1 = 3) (h8 : ¬ x1 = 4) : runs (T_X9_rate ex) (109, [.ref 34, .int x1, .int x2, .int x3, .int x4, .int x5, .int x6, .int x7, .int x8, v9], [], w) = some (some (.int (x3 + x7)), updL w 34 1 ((w.2 34 1) + 11)) := 
    (runs_stps (q' := (115, [.ref 34, .int x1, .int x2, .int x3, .int x4, .int x5, .int x6, .int x7, .int x8, .null], [.int (w.1 34 14), .int x8], w)) 3 rfl).trans <|
    (runs_if_t (a := 169) (b := 118) (L := [.ref 34, .int x1, .int x2, .int x3, .int x4, .int x5, .int x6, .int x7, .int x8, .null]) (st := []) (w := w) rfl h1).trans <|
    (runs_stps (q' := (175, [.ref 34, .int x1, .null, .int x3, .int x4, .int x5, .int x6, .int x7, .null, .null], [.int x1, .long (w.2 34 1), .ref 34], w)) 4 rfl).trans <|
    (runs_if_f (a := 178) (b := 182) (L := [.ref 34, .int x1, .null, .int x3, .int x4, .int x5, .int x6, .int x7, .null, .null]) (st := [.long (w.2 34 1), .ref 34]) (w := w) rfl h2).trans <|
    (runs_stps (q' := (184, [.null, .int x1, .null, .int x3, .int x4, .int x5, .int x6, .int x7, .null, .null], [.int 1, .int x1, .long (w.2 34 1), .ref 34], w)) 2 rfl).trans <|
    (runs_if_t (a := 187) (b := 193) (L := [.null, .int x1, .null, .int x3, .int x4, .int x5, .int x6, .int x7, .null, .null]) (st := [.long (w.2 34 1), .ref 34]) (w := w) rfl h3).trans <|
    (runs_stps (q' := (234, [.null, .int x1, .null, .int x3, .int x4, .int x5, .int x6, .int x7, .null, .null], [.int x1], updL w 34 1 ((w.2 34 1) + 11))) 5 rfl).trans <|
    (runs_if_f (a := 237) (b := 241) (L := [.null, .int x1, .null, .int x3, .int x4, .int x5, .int x6, .int x7, .null, .null]) (st := []) (w := updL w 34 1 ((w.2 34 1) + 11)) rfl h4).trans <|
    (runs_stps (q' := (243, [.null, .int x1, .null, .int x3, .int x4, .int x5, .int x6, .int x7, .null, .null], [.int 1, .int x1], updL w 34 1 ((w.2 34 1) + 11))) 2 rfl).trans <|
    (runs_if_f (a := 246) (b := 251) (L := [.null, .int x1, .null, .int x3, .int x4, .int x5, .int x6, .int x7, .null, .null]) (st := []) (w := updL w 34 1 ((w.2 34 1) + 11)) rfl h5).trans <|
    (runs_stps (q' := (253, [.null, .int x1, .null, .int x3, .int x4, .int x5, .int x6, .int x7, .null, .null], [.int 2, .int x1], updL w 34 1 ((w.2 34 1) + 11))) 2 rfl).trans <|
    (runs_if_f (a := 256) (b := 261) (L := [.null, .int x1, .null, .int x3, .int x4, .int x5, .int x6, .int x7, .null, .null]) (st := []) (w := updL w 34 1 ((w.2 34 1) + 11)) rfl h6).trans <|
    (runs_stps (q' := (263, [.null, .int x1, .null, .int x3, .int x4, .int x5, .int x6, .int x7, .null, .null], [.int 3, .int x1], updL w 34 1 ((w.2 34 1) + 11))) 2 rfl).trans <|
    (runs_if_f (a := 266) (b := 273) (L := [.null, .int x1, .null, .int x3, .int x4, .int x5, .int x6, .int x7, .null, .null]) (st := []) (w := updL w 34 1 ((w.2 34 1) + 11)) rfl h7).trans <|
    (runs_stps (q' := (275, [.null, .int x1, .null, .int x3, .null, .int x5, .int x6, .int x7, .null, .null], [.int 4, .int x1], updL w 34 1 ((w.2 34 1) + 11))) 2 rfl).trans <|
    (runs_if_f (a := 278) (b := 286) (L := [.null, .int x1, .null, .int x3, .null, .int x5, .int x6, .int x7, .null, .null]) (st := []) (w := updL w 34 1 ((w.2 34 1) + 11)) rfl h8).trans <|
    (runs_stps (q' := (290, [.null, .null, .null, .int x3, .null, .null, .null, .int x7, .null, .null], [.int (x3 + x7)], updL w 34 1 ((w.2 34 1) + 11))) 3 rfl).trans <|
    runs_ret rfl
theorem p_X9_rate_109TTFTTTTF_R {ex : Ex} {x1 : Int32} {x2 : Int32} {x3 : Int32} {x4 : Int32} {x5 : Int32} {x6 : Int32} {x7 : Int32} {x8 : Int32} {v9 : Value} {w : Wd} (h1 : (w.1 34 14) ≤ x8) (h2 : ¬ x1 = 0) (h3 : x1 = 1) (h4 : ¬ x1 = 0) (h5 : ¬ x1 = 1) (h6 : ¬ x1 = 2) (h7 : ¬ x1 = 3) (h8 : x1 = 4) : runs (T_X9_rate ex) (109, [.ref 34, .int x1, .int x2, .int x3, .int x4, .int x5, .int x6, .int x7, .int x8, v9], [], w) = some (some (.int (x5 + x6)), updL w 34 1 ((w.2 34 1) + 11)) := 
    (runs_stps (q' := (115, [.ref 34, .int x1, .int x2, .int x3, .int x4, .int x5, .int x6, .int x7, .int x8, .null], [.int (w.1 34 14), .int x8], w)) 3 rfl).trans <|
    (runs_if_t (a := 169) (b := 118) (L := [.ref 34, .int x1, .int x2, .int x3, .int x4, .int x5, .int x6, .int x7, .int x8, .null]) (st := []) (w := w) rfl h1).trans <|
    (runs_stps (q' := (175, [.ref 34, .int x1, .null, .int x3, .int x4, .int x5, .int x6, .int x7, .null, .null], [.int x1, .long (w.2 34 1), .ref 34], w)) 4 rfl).trans <|
    (runs_if_f (a := 178) (b := 182) (L := [.ref 34, .int x1, .null, .int x3, .int x4, .int x5, .int x6, .int x7, .null, .null]) (st := [.long (w.2 34 1), .ref 34]) (w := w) rfl h2).trans <|
    (runs_stps (q' := (184, [.null, .int x1, .null, .int x3, .int x4, .int x5, .int x6, .int x7, .null, .null], [.int 1, .int x1, .long (w.2 34 1), .ref 34], w)) 2 rfl).trans <|
    (runs_if_t (a := 187) (b := 193) (L := [.null, .int x1, .null, .int x3, .int x4, .int x5, .int x6, .int x7, .null, .null]) (st := [.long (w.2 34 1), .ref 34]) (w := w) rfl h3).trans <|
    (runs_stps (q' := (234, [.null, .int x1, .null, .int x3, .int x4, .int x5, .int x6, .int x7, .null, .null], [.int x1], updL w 34 1 ((w.2 34 1) + 11))) 5 rfl).trans <|
    (runs_if_f (a := 237) (b := 241) (L := [.null, .int x1, .null, .int x3, .int x4, .int x5, .int x6, .int x7, .null, .null]) (st := []) (w := updL w 34 1 ((w.2 34 1) + 11)) rfl h4).trans <|
    (runs_stps (q' := (243, [.null, .int x1, .null, .int x3, .int x4, .int x5, .int x6, .int x7, .null, .null], [.int 1, .int x1], updL w 34 1 ((w.2 34 1) + 11))) 2 rfl).trans <|
    (runs_if_f (a := 246) (b := 251) (L := [.null, .int x1, .null, .int x3, .int x4, .int x5, .int x6, .int x7, .null, .null]) (st := []) (w := updL w 34 1 ((w.2 34 1) + 11)) rfl h5).trans <|
    (runs_stps (q' := (253, [.null, .int x1, .null, .int x3, .int x4, .int x5, .int x6, .int x7, .null, .null], [.int 2, .int x1], updL w 34 1 ((w.2 34 1) + 11))) 2 rfl).trans <|
    (runs_if_f (a := 256) (b := 261) (L := [.null, .int x1, .null, .int x3, .int x4, .int x5, .int x6, .int x7, .null, .null]) (st := []) (w := updL w 34 1 ((w.2 34 1) + 11)) rfl h6).trans <|
    (runs_stps (q' := (263, [.null, .int x1, .null, .int x3, .int x4, .int x5, .int x6, .int x7, .null, .null], [.int 3, .int x1], updL w 34 1 ((w.2 34 1) + 11))) 2 rfl).trans <|
    (runs_if_f (a := 266) (b := 273) (L := [.null, .int x1, .null, .int x3, .int x4, .int x5, .int x6, .int x7, .null, .null]) (st := []) (w := updL w 34 1 ((w.2 34 1) + 11)) rfl h7).trans <|
    (runs_stps (q' := (275, [.null, .int x1, .null, .int x3, .null, .int x5, .int x6, .int x7, .null, .null], [.int 4, .int x1], updL w 34 1 ((w.2 34 1) + 11))) 2 rfl).trans <|
    (runs_if_t (a := 278) (b := 286) (L := [.null, .int x1, .null, .int x3, .null, .int x5, .int x6, .int x7, .null, .null]) (st := []) (w := updL w 34 1 ((w.2 34 1) + 11)) rfl h8).trans <|
    (runs_stps (q' := (290, [.null, .int x1, .null, .int x3, .null, .int x5, .int x6, .int x7, .null, .null], [.int (x5 + x6)], updL w 34 1 ((w.2 34 1) + 11))) 4 rfl).trans <|
    runs_ret rfl
theorem p_X9_rate_109TTFTTTF_R {ex : Ex} {x1 : Int32} {x2 : Int32} {x3 : Int32} {x4 : Int32} {x5 : Int32} {x6 : Int32} {x7 : Int32} {x8 : Int32} {v9 : Value} {w : Wd} (h1 : (w.1 34 14) ≤ x8) (h2 : ¬ x1 = 0) (h3 : x1 = 1) (h4 : ¬ x1 = 0) (h5 : ¬ x1 = 1) (h6 : ¬ x1 = 2) (h7 : x1 = 3) : runs (T_X9_rate ex) (109, [.ref 34, .int x1, .int x2, .int x3, .int x4, .int x5, .int x6, .int x7, .int x8, v9], [], w) = some (some (.int (2 * x4)), updL w 34 1 ((w.2 34 1) + 11)) := 
    (runs_stps (q' := (115, [.ref 34, .int x1, .int x2, .int x3, .int x4, .int x5, .int x6, .int x7, .int x8, .null], [.int (w.1 34 14), .int x8], w)) 3 rfl).trans <|
    (runs_if_t (a := 169) (b := 118) (L := [.ref 34, .int x1, .int x2, .int x3, .int x4, .int x5, .int x6, .int x7, .int x8, .null]) (st := []) (w := w) rfl h1).trans <|
    (runs_stps (q' := (175, [.ref 34, .int x1, .null, .int x3, .int x4, .int x5, .int x6, .int x7, .null, .null], [.int x1, .long (w.2 34 1), .ref 34], w)) 4 rfl).trans <|
    (runs_if_f (a := 178) (b := 182) (L := [.ref 34, .int x1, .null, .int x3, .int x4, .int x5, .int x6, .int x7, .null, .null]) (st := [.long (w.2 34 1), .ref 34]) (w := w) rfl h2).trans <|
    (runs_stps (q' := (184, [.null, .int x1, .null, .int x3, .int x4, .int x5, .int x6, .int x7, .null, .null], [.int 1, .int x1, .long (w.2 34 1), .ref 34], w)) 2 rfl).trans <|
    (runs_if_t (a := 187) (b := 193) (L := [.null, .int x1, .null, .int x3, .int x4, .int x5, .int x6, .int x7, .null, .null]) (st := [.long (w.2 34 1), .ref 34]) (w := w) rfl h3).trans <|
    (runs_stps (q' := (234, [.null, .int x1, .null, .int x3, .int x4, .int x5, .int x6, .int x7, .null, .null], [.int x1], updL w 34 1 ((w.2 34 1) + 11))) 5 rfl).trans <|
    (runs_if_f (a := 237) (b := 241) (L := [.null, .int x1, .null, .int x3, .int x4, .int x5, .int x6, .int x7, .null, .null]) (st := []) (w := updL w 34 1 ((w.2 34 1) + 11)) rfl h4).trans <|
    (runs_stps (q' := (243, [.null, .int x1, .null, .int x3, .int x4, .int x5, .int x6, .int x7, .null, .null], [.int 1, .int x1], updL w 34 1 ((w.2 34 1) + 11))) 2 rfl).trans <|
    (runs_if_f (a := 246) (b := 251) (L := [.null, .int x1, .null, .int x3, .int x4, .int x5, .int x6, .int x7, .null, .null]) (st := []) (w := updL w 34 1 ((w.2 34 1) + 11)) rfl h5).trans <|
    (runs_stps (q' := (253, [.null, .int x1, .null, .int x3, .int x4, .int x5, .int x6, .int x7, .null, .null], [.int 2, .int x1], updL w 34 1 ((w.2 34 1) + 11))) 2 rfl).trans <|
    (runs_if_f (a := 256) (b := 261) (L := [.null, .int x1, .null, .int x3, .int x4, .int x5, .int x6, .int x7, .null, .null]) (st := []) (w := updL w 34 1 ((w.2 34 1) + 11)) rfl h6).trans <|
    (runs_stps (q' := (263, [.null, .int x1, .null, .int x3, .int x4, .int x5, .int x6, .int x7, .null, .null], [.int 3, .int x1], updL w 34 1 ((w.2 34 1) + 11))) 2 rfl).trans <|
    (runs_if_t (a := 266) (b := 273) (L := [.null, .int x1, .null, .int x3, .int x4, .int x5, .int x6, .int x7, .null, .null]) (st := []) (w := updL w 34 1 ((w.2 34 1) + 11)) rfl h7).trans <|
    (runs_stps (q' := (290, [.null, .int x1, .null, .int x3, .int x4, .int x5, .int x6, .int x7, .null, .null], [.int (2 * x4)], updL w 34 1 ((w.2 34 1) + 11))) 4 rfl).trans <|
    runs_ret rfl
theorem p_X9_rate_109TTFTTF_R {ex : Ex} {x1 : Int32} {x2 : Int32} {x3 : Int32} {x4 : Int32} {x5 : Int32} {x6 : Int32} {x7 : Int32} {x8 : Int32} {v9 : Value} {w : Wd} (h1 : (w.1 34 14) ≤ x8) (h2 : ¬ x1 = 0) (h3 : x1 = 1) (h4 : ¬ x1 = 0) (h5 : ¬ x1 = 1) (h6 : x1 = 2) : runs (T_X9_rate ex) (109, [.ref 34, .int x1, .int x2, .int x3, .int x4, .int x5, .int x6, .int x7, .int x8, v9], [], w) = some (some (.int x5), updL w 34 1 ((w.2 34 1) + 11)) := 
    (runs_stps (q' := (115, [.ref 34, .int x1, .int x2, .int x3, .int x4, .int x5, .int x6, .int x7, .int x8, .null], [.int (w.1 34 14), .int x8], w)) 3 rfl).trans <|
    (runs_if_t (a := 169) (b := 118) (L := [.ref 34, .int x1, .int x2, .int x3, .int x4, .int x5, .int x6, .int x7, .int x8, .null]) (st := []) (w := w) rfl h1).trans <|
    (runs_stps (q' := (175, [.ref 34, .int x1, .null, .int x3, .int x4, .int x5, .int x6, .int x7, .null, .null], [.int x1, .long (w.2 34 1), .ref 34], w)) 4 rfl).trans <|
    (runs_if_f (a := 178) (b := 182) (L := [.ref 34, .int x1, .null, .int x3, .int x4, .int x5, .int x6, .int x7, .null, .null]) (st := [.long (w.2 34 1), .ref 34]) (w := w) rfl h2).trans <|
    (runs_stps (q' := (184, [.null, .int x1, .null, .int x3, .int x4, .int x5, .int x6, .int x7, .null, .null], [.int 1, .int x1, .long (w.2 34 1), .ref 34], w)) 2 rfl).trans <|
    (runs_if_t (a := 187) (b := 193) (L := [.null, .int x1, .null, .int x3, .int x4, .int x5, .int x6, .int x7, .null, .null]) (st := [.long (w.2 34 1), .ref 34]) (w := w) rfl h3).trans <|
    (runs_stps (q' := (234, [.null, .int x1, .null, .int x3, .int x4, .int x5, .int x6, .int x7, .null, .null], [.int x1], updL w 34 1 ((w.2 34 1) + 11))) 5 rfl).trans <|
    (runs_if_f (a := 237) (b := 241) (L := [.null, .int x1, .null, .int x3, .int x4, .int x5, .int x6, .int x7, .null, .null]) (st := []) (w := updL w 34 1 ((w.2 34 1) + 11)) rfl h4).trans <|
    (runs_stps (q' := (243, [.null, .int x1, .null, .int x3, .int x4, .int x5, .int x6, .int x7, .null, .null], [.int 1, .int x1], updL w 34 1 ((w.2 34 1) + 11))) 2 rfl).trans <|
    (runs_if_f (a := 246) (b := 251) (L := [.null, .int x1, .null, .int x3, .int x4, .int x5, .int x6, .int x7, .null, .null]) (st := []) (w := updL w 34 1 ((w.2 34 1) + 11)) rfl h5).trans <|
    (runs_stps (q' := (253, [.null, .int x1, .null, .int x3, .int x4, .int x5, .int x6, .int x7, .null, .null], [.int 2, .int x1], updL w 34 1 ((w.2 34 1) + 11))) 2 rfl).trans <|
    (runs_if_t (a := 256) (b := 261) (L := [.null, .int x1, .null, .int x3, .int x4, .int x5, .int x6, .int x7, .null, .null]) (st := []) (w := updL w 34 1 ((w.2 34 1) + 11)) rfl h6).trans <|
    (runs_stps (q' := (290, [.null, .int x1, .null, .int x3, .int x4, .int x5, .int x6, .int x7, .null, .null], [.int x5], updL w 34 1 ((w.2 34 1) + 11))) 2 rfl).trans <|
    runs_ret rfl
theorem p_X9_rate_109TTFTF_R {ex : Ex} {x1 : Int32} {x2 : Int32} {x3 : Int32} {x4 : Int32} {x5 : Int32} {x6 : Int32} {x7 : Int32} {x8 : Int32} {v9 : Value} {w : Wd} (h1 : (w.1 34 14) ≤ x8) (h2 : ¬ x1 = 0) (h3 : x1 = 1) (h4 : ¬ x1 = 0) (h5 : x1 = 1) : runs (T_X9_rate ex) (109, [.ref 34, .int x1, .int x2, .int x3, .int x4, .int x5, .int x6, .int x7, .int x8, v9], [], w) = some (some (.int x4), updL w 34 1 ((w.2 34 1) + 11)) := 
    (runs_stps (q' := (115, [.ref 34, .int x1, .int x2, .int x3, .int x4, .int x5, .int x6, .int x7, .int x8, .null], [.int (w.1 34 14), .int x8], w)) 3 rfl).trans <|
    (runs_if_t (a := 169) (b := 118) (L := [.ref 34, .int x1, .int x2, .int x3, .int x4, .int x5, .int x6, .int x7, .int x8, .null]) (st := []) (w := w) rfl h1).trans <|
    (runs_stps (q' := (175, [.ref 34, .int x1, .null, .int x3, .int x4, .int x5, .int x6, .int x7, .null, .null], [.int x1, .long (w.2 34 1), .ref 34], w)) 4 rfl).trans <|
    (runs_if_f (a := 178) (b := 182) (L := [.ref 34, .int x1, .null, .int x3, .int x4, .int x5, .int x6, .int x7, .null, .null]) (st := [.long (w.2 34 1), .ref 34]) (w := w) rfl h2).trans <|
    (runs_stps (q' := (184, [.null, .int x1, .null, .int x3, .int x4, .int x5, .int x6, .int x7, .null, .null], [.int 1, .int x1, .long (w.2 34 1), .ref 34], w)) 2 rfl).trans <|
    (runs_if_t (a := 187) (b := 193) (L := [.null, .int x1, .null, .int x3, .int x4, .int x5, .int x6, .int x7, .null, .null]) (st := [.long (w.2 34 1), .ref 34]) (w := w) rfl h3).trans <|
    (runs_stps (q' := (234, [.null, .int x1, .null, .int x3, .int x4, .int x5, .int x6, .int x7, .null, .null], [.int x1], updL w 34 1 ((w.2 34 1) + 11))) 5 rfl).trans <|
    (runs_if_f (a := 237) (b := 241) (L := [.null, .int x1, .null, .int x3, .int x4, .int x5, .int x6, .int x7, .null, .null]) (st := []) (w := updL w 34 1 ((w.2 34 1) + 11)) rfl h4).trans <|
    (runs_stps (q' := (243, [.null, .int x1, .null, .int x3, .int x4, .int x5, .int x6, .int x7, .null, .null], [.int 1, .int x1], updL w 34 1 ((w.2 34 1) + 11))) 2 rfl).trans <|
    (runs_if_t (a := 246) (b := 251) (L := [.null, .int x1, .null, .int x3, .int x4, .int x5, .int x6, .int x7, .null, .null]) (st := []) (w := updL w 34 1 ((w.2 34 1) + 11)) rfl h5).trans <|
    (runs_stps (q' := (290, [.null, .int x1, .null, .int x3, .int x4, .int x5, .int x6, .int x7, .null, .null], [.int x4], updL w 34 1 ((w.2 34 1) + 11))) 2 rfl).trans <|
    runs_ret rfl
theorem p_X9_rate_109TTFF_R {ex : Ex} {x1 : Int32} {x2 : Int32} {x3 : Int32} {x4 : Int32} {x5 : Int32} {x6 : Int32} {x7 : Int32} {x8 : Int32} {v9 : Value} {w : Wd} (h1 : (w.1 34 14) ≤ x8) (h2 : ¬ x1 = 0) (h3 : x1 = 1) (h4 : x1 = 0) : runs (T_X9_rate ex) (109, [.ref 34, .int x1, .int x2, .int x3, .int x4, .int x5, .int x6, .int x7, .int x8, v9], [], w) = some (some (.int x3), updL w 34 1 ((w.2 34 1) + 11)) := 
    (runs_stps (q' := (115, [.ref 34, .int x1, .int x2, .int x3, .int x4, .int x5, .int x6, .int x7, .int x8, .null], [.int (w.1 34 14), .int x8], w)) 3 rfl).trans <|
    (runs_if_t (a := 169) (b := 118) (L := [.ref 34, .int x1, .int x2, .int x3, .int x4, .int x5, .int x6, .int x7, .int x8, .null]) (st := []) (w := w) rfl h1).trans <|
    (runs_stps (q' := (175, [.ref 34, .int x1, .null, .int x3, .int x4, .int x5, .int x6, .int x7, .null, .null], [.int x1, .long (w.2 34 1), .ref 34], w)) 4 rfl).trans <|
    (runs_if_f (a := 178) (b := 182) (L := [.ref 34, .int x1, .null, .int x3, .int x4, .int x5, .int x6, .int x7, .null, .null]) (st := [.long (w.2 34 1), .ref 34]) (w := w) rfl h2).trans <|
    (runs_stps (q' := (184, [.null, .int x1, .null, .int x3, .int x4, .int x5, .int x6, .int x7, .null, .null], [.int 1, .int x1, .long (w.2 34 1), .ref 34], w)) 2 rfl).trans <|
    (runs_if_t (a := 187) (b := 193) (L := [.null, .int x1, .null, .int x3, .int x4, .int x5, .int x6, .int x7, .null, .null]) (st := [.long (w.2 34 1), .ref 34]) (w := w) rfl h3).trans <|
    (runs_stps (q' := (234, [.null, .int x1, .null, .int x3, .int x4, .int x5, .int x6, .int x7, .null, .null], [.int x1], updL w 34 1 ((w.2 34 1) + 11))) 5 rfl).trans <|
    (runs_if_t (a := 237) (b := 241) (L := [.null, .int x1, .null, .int x3, .int x4, .int x5, .int x6, .int x7, .null, .null]) (st := []) (w := updL w 34 1 ((w.2 34 1) + 11)) rfl h4).trans <|
    (runs_stps (q' := (290, [.null, .int x1, .null, .int x3, .int x4, .int x5, .int x6, .int x7, .null, .null], [.int x3], updL w 34 1 ((w.2 34 1) + 11))) 2 rfl).trans <|
    runs_ret rfl
theorem p_X9_rate_109TFTTTTT_R {ex : Ex} {x1 : Int32} {x2 : Int32} {x3 : Int32} {x4 : Int32} {x5 : Int32} {x6 : Int32} {x7 : Int32} {x8 : Int32} {v9 : Value} {w : Wd} (h1 : (w.1 34 14) ≤ x8) (h2 : x1 = 0) (h3 : ¬ x1 = 0) (h4 : ¬ x1 = 1) (h5 : ¬ x1 = 2) (h6 : ¬ x1 = 3) (h7 : ¬ x1 = 4) : runs (T_X9_rate ex) (109, [.ref 34, .int x1, .int x2, .int x3, .int x4, .int x5, .int x6, .int x7, .int x8, v9], [], w) = some (some (.int (x3 + x7)), updL w 34 1 ((w.2 34 1) + 1)) := 
    (runs_stps (q' := (115, [.ref 34, .int x1, .int x2, .int x3, .int x4, .int x5, .int x6, .int x7, .int x8, .null], [.int (w.1 34 14), .int x8], w)) 3 rfl).trans <|
    (runs_if_t (a := 169) (b := 118) (L := [.ref 34, .int x1, .int x2, .int x3, .int x4, .int x5, .int x6, .int x7, .int x8, .null]) (st := []) (w := w) rfl h1).trans <|
    (runs_stps (q' := (175, [.ref 34, .int x1, .null, .int x3, .int x4, .int x5, .int x6, .int x7, .null, .null], [.int x1, .long (w.2 34 1), .ref 34], w)) 4 rfl).trans <|
    (runs_if_t (a := 178) (b := 182) (L := [.ref 34, .int x1, .null, .int x3, .int x4, .int x5, .int x6, .int x7, .null, .null]) (st := [.long (w.2 34 1), .ref 34]) (w := w) rfl h2).trans <|
    (runs_stps (q' := (234, [.null, .int x1, .null, .int x3, .int x4, .int x5, .int x6, .int x7, .null, .null], [.int x1], updL w 34 1 ((w.2 34 1) + 1))) 5 rfl).trans <|
    (runs_if_f (a := 237) (b := 241) (L := [.null, .int x1, .null, .int x3, .int x4, .int x5, .int x6, .int x7, .null, .null]) (st := []) (w := updL w 34 1 ((w.2 34 1) + 1)) rfl h3).trans <|
    (runs_stps (q' := (243, [.null, .int x1, .null, .int x3, .int x4, .int x5, .int x6, .int x7, .null, .null], [.int 1, .int x1], updL w 34 1 ((w.2 34 1) + 1))) 2 rfl).trans <|
    (runs_if_f (a := 246) (b := 251) (L := [.null, .int x1, .null, .int x3, .int x4, .int x5, .int x6, .int x7, .null, .null]) (st := []) (w := updL w 34 1 ((w.2 34 1) + 1)) rfl h4).trans <|
    (runs_stps (q' := (253, [.null, .int x1, .null, .int x3, .int x4, .int x5, .int x6, .int x7, .null, .null], [.int 2, .int x1], updL w 34 1 ((w.2 34 1) + 1))) 2 rfl).trans <|
    (runs_if_f (a := 256) (b := 261) (L := [.null, .int x1, .null, .int x3, .int x4, .int x5, .int x6, .int x7, .null, .null]) (st := []) (w := updL w 34 1 ((w.2 34 1) + 1)) rfl h5).trans <|
    (runs_stps (q' := (263, [.null, .int x1, .null, .int x3, .int x4, .int x5, .int x6, .int x7, .null, .null], [.int 3, .int x1], updL w 34 1 ((w.2 34 1) + 1))) 2 rfl).trans <|
    (runs_if_f (a := 266) (b := 273) (L := [.null, .int x1, .null, .int x3, .int x4, .int x5, .int x6, .int x7, .null, .null]) (st := []) (w := updL w 34 1 ((w.2 34 1) + 1)) rfl h6).trans <|
    (runs_stps (q' := (275, [.null, .int x1, .null, .int x3, .null, .int x5, .int x6, .int x7, .null, .null], [.int 4, .int x1], updL w 34 1 ((w.2 34 1) + 1))) 2 rfl).trans <|
    (runs_if_f (a := 278) (b := 286) (L := [.null, .int x1, .null, .int x3, .null, .int x5, .int x6, .int x7, .null, .null]) (st := []) (w := updL w 34 1 ((w.2 34 1) + 1)) rfl h7).trans <|
    (runs_stps (q' := (290, [.null, .null, .null, .int x3, .null, .null, .null, .int x7, .null, .null], [.int (x3 + x7)], updL w 34 1 ((w.2 34 1) + 1))) 3 rfl).trans <|
    runs_ret rfl
theorem p_X9_rate_109TFTTTTF_R {ex : Ex} {x1 : Int32} {x2 : Int32} {x3 : Int32} {x4 : Int32} {x5 : Int32} {x6 : Int32} {x7 : Int32} {x8 : Int32} {v9 : Value} {w : Wd} (h1 : (w.1 34 14) ≤ x8) (h2 : x1 = 0) (h3 : ¬ x1 = 0) (h4 : ¬ x1 = 1) (h5 : ¬ x1 = 2) (h6 : ¬ x1 = 3) (h7 : x1 = 4) : runs (T_X9_rate ex) (109, [.ref 34, .int x1, .int x2, .int x3, .int x4, .int x5, .int x6, .int x7, .int x8, v9], [], w) = some (some (.int (x5 + x6)), updL w 34 1 ((w.2 34 1) + 1)) := 
    (runs_stps (q' := (115, [.ref 34, .int x1, .int x2, .int x3, .int x4, .int x5, .int x6, .int x7, .int x8, .null], [.int (w.1 34 14), .int x8], w)) 3 rfl).trans <|
    (runs_if_t (a := 169) (b := 118) (L := [.ref 34, .int x1, .int x2, .int x3, .int x4, .int x5, .int x6, .int x7, .int x8, .null]) (st := []) (w := w) rfl h1).trans <|
    (runs_stps (q' := (175, [.ref 34, .int x1, .null, .int x3, .int x4, .int x5, .int x6, .int x7, .null, .null], [.int x1, .long (w.2 34 1), .ref 34], w)) 4 rfl).trans <|
    (runs_if_t (a := 178) (b := 182) (L := [.ref 34, .int x1, .null, .int x3, .int x4, .int x5, .int x6, .int x7, .null, .null]) (st := [.long (w.2 34 1), .ref 34]) (w := w) rfl h2).trans <|
    (runs_stps (q' := (234, [.null, .int x1, .null, .int x3, .int x4, .int x5, .int x6, .int x7, .null, .null], [.int x1], updL w 34 1 ((w.2 34 1) + 1))) 5 rfl).trans <|
    (runs_if_f (a := 237) (b := 241) (L := [.null, .int x1, .null, .int x3, .int x4, .int x5, .int x6, .int x7, .null, .null]) (st := []) (w := updL w 34 1 ((w.2 34 1) + 1)) rfl h3).trans <|
    (runs_stps (q' := (243, [.null, .int x1, .null, .int x3, .int x4, .int x5, .int x6, .int x7, .null, .null], [.int 1, .int x1], updL w 34 1 ((w.2 34 1) + 1))) 2 rfl).trans <|
    (runs_if_f (a := 246) (b := 251) (L := [.null, .int x1, .null, .int x3, .int x4, .int x5, .int x6, .int x7, .null, .null]) (st := []) (w := updL w 34 1 ((w.2 34 1) + 1)) rfl h4).trans <|
    (runs_stps (q' := (253, [.null, .int x1, .null, .int x3, .int x4, .int x5, .int x6, .int x7, .null, .null], [.int 2, .int x1], updL w 34 1 ((w.2 34 1) + 1))) 2 rfl).trans <|
    (runs_if_f (a := 256) (b := 261) (L := [.null, .int x1, .null, .int x3, .int x4, .int x5, .int x6, .int x7, .null, .null]) (st := []) (w := updL w 34 1 ((w.2 34 1) + 1)) rfl h5).trans <|
    (runs_stps (q' := (263, [.null, .int x1, .null, .int x3, .int x4, .int x5, .int x6, .int x7, .null, .null], [.int 3, .int x1], updL w 34 1 ((w.2 34 1) + 1))) 2 rfl).trans <|
    (runs_if_f (a := 266) (b := 273) (L := [.null, .int x1, .null, .int x3, .int x4, .int x5, .int x6, .int x7, .null, .null]) (st := []) (w := updL w 34 1 ((w.2 34 1) + 1)) rfl h6).trans <|
    (runs_stps (q' := (275, [.null, .int x1, .null, .int x3, .null, .int x5, .int x6, .int x7, .null, .null], [.int 4, .int x1], updL w 34 1 ((w.2 34 1) + 1))) 2 rfl).trans <|
    (runs_if_t (a := 278) (b := 286) (L := [.null, .int x1, .null, .int x3, .null, .int x5, .int x6, .int x7, .null, .null]) (st := []) (w := updL w 34 1 ((w.2 34 1) + 1)) rfl h7).trans <|
    (runs_stps (q' := (290, [.null, .int x1, .null, .int x3, .null, .int x5, .int x6, .int x7, .null, .null], [.int (x5 + x6)], updL w 34 1 ((w.2 34 1) + 1))) 4 rfl).trans <|
    runs_ret rfl
theorem p_X9_rate_109TFTTTF_R {ex : Ex} {x1 : Int32} {x2 : Int32} {x3 : Int32} {x4 : Int32} {x5 : Int32} {x6 : Int32} {x7 : Int32} {x8 : Int32} {v9 : Value} {w : Wd} (h1 : (w.1 34 14) ≤ x8) (h2 : x1 = 0) (h3 : ¬ x1 = 0) (h4 : ¬ x1 = 1) (h5 : ¬ x1 = 2) (h6 : x1 = 3) : runs (T_X9_rate ex) (109, [.ref 34, .int x1, .int x2, .int x3, .int x4, .int x5, .int x6, .int x7, .int x8, v9], [], w) = some (some (.int (2 * x4)), updL w 34 1 ((w.2 34 1) + 1)) := 
    (runs_stps (q' := (115, [.ref 34, .int x1, .int x2, .int x3, .int x4, .int x5, .int x6, .int x7, .int x8, .null], [.int (w.1 34 14), .int x8], w)) 3 rfl).trans <|
    (runs_if_t (a := 169) (b := 118) (L := [.ref 34, .int x1, .int x2, .int x3, .int x4, .int x5, .int x6, .int x7, .int x8, .null]) (st := []) (w := w) rfl h1).trans <|
    (runs_stps (q' := (175, [.ref 34, .int x1, .null, .int x3, .int x4, .int x5, .int x6, .int x7, .null, .null], [.int x1, .long (w.2 34 1), .ref 34], w)) 4 rfl).trans <|
    (runs_if_t (a := 178) (b := 182) (L := [.ref 34, .int x1, .null, .int x3, .int x4, .int x5, .int x6, .int x7, .null, .null]) (st := [.long (w.2 34 1), .ref 34]) (w := w) rfl h2).trans <|
    (runs_stps (q' := (234, [.null, .int x1, .null, .int x3, .int x4, .int x5, .int x6, .int x7, .null, .null], [.int x1], updL w 34 1 ((w.2 34 1) + 1))) 5 rfl).trans <|
    (runs_if_f (a := 237) (b := 241) (L := [.null, .int x1, .null, .int x3, .int x4, .int x5, .int x6, .int x7, .null, .null]) (st := []) (w := updL w 34 1 ((w.2 34 1) + 1)) rfl h3).trans <|
    (runs_stps (q' := (243, [.null, .int x1, .null, .int x3, .int x4, .int x5, .int x6, .int x7, .null, .null], [.int 1, .int x1], updL w 34 1 ((w.2 34 1) + 1))) 2 rfl).trans <|
    (runs_if_f (a := 246) (b := 251) (L := [.null, .int x1, .null, .int x3, .int x4, .int x5, .int x6, .int x7, .null, .null]) (st := []) (w := updL w 34 1 ((w.2 34 1) + 1)) rfl h4).trans <|
    (runs_stps (q' := (253, [.null, .int x1, .null, .int x3, .int x4, .int x5, .int x6, .int x7, .null, .null], [.int 2, .int x1], updL w 34 1 ((w.2 34 1) + 1))) 2 rfl).trans <|
    (runs_if_f (a := 256) (b := 261) (L := [.null, .int x1, .null, .int x3, .int x4, .int x5, .int x6, .int x7, .null, .null]) (st := []) (w := updL w 34 1 ((w.2 34 1) + 1)) rfl h5).trans <|
    (runs_stps (q' := (263, [.null, .int x1, .null, .int x3, .int x4, .int x5, .int x6, .int x7, .null, .null], [.int 3, .int x1], updL w 34 1 ((w.2 34 1) + 1))) 2 rfl).trans <|
    (runs_if_t (a := 266) (b := 273) (L := [.null, .int x1, .null, .int x3, .int x4, .int x5, .int x6, .int x7, .null, .null]) (st := []) (w := updL w 34 1 ((w.2 34 1) + 1)) rfl h6).trans <|
    (runs_stps (q' := (290, [.null, .int x1, .null, .int x3, .int x4, .int x5, .int x6, .int x7, .null, .null], [.int (2 * x4)], updL w 34 1 ((w.2 34 1) + 1))) 4 rfl).trans <|
    runs_ret rfl
theorem p_X9_rate_109TFTTF_R {ex : Ex} {x1 : Int32} {x2 : Int32} {x3 : Int32} {x4 : Int32} {x5 : Int32} {x6 : Int32} {x7 : Int32} {x8 : Int32} {v9 : Value} {w : Wd} (h1 : (w.1 34 14) ≤ x8) (h2 : x1 = 0) (h3 : ¬ x1 = 0) (h4 : ¬ x1 = 1) (h5 : x1 = 2) : runs (T_X9_rate ex) (109, [.ref 34, .int x1, .int x2, .int x3, .int x4, .int x5, .int x6, .int x7, .int x8, v9], [], w) = some (some (.int x5), updL w 34 1 ((w.2 34 1) + 1)) := 
    (runs_stps (q' := (115, [.ref 34, .int x1, .int x2, .int x3, .int x4, .int x5, .int x6, .int x7, .int x8, .null], [.int (w.1 34 14), .int x8], w)) 3 rfl).trans <|
    (runs_if_t (a := 169) (b := 118) (L := [.ref 34, .int x1, .int x2, .int x3, .int x4, .int x5, .int x6, .int x7, .int x8, .null]) (st := []) (w := w) rfl h1).trans <|
    (runs_stps (q' := (175, [.ref 34, .int x1, .null, .int x3, .int x4, .int x5, .int x6, .int x7, .null, .null], [.int x1, .long (w.2 34 1), .ref 34], w)) 4 rfl).trans <|
    (runs_if_t (a := 178) (b := 182) (L := [.ref 34, .int x1, .null, .int x3, .int x4, .int x5, .int x6, .int x7, .null, .null]) (st := [.long (w.2 34 1), .ref 34]) (w := w) rfl h2).trans <|
    (runs_stps (q' := (234, [.null, .int x1, .null, .int x3, .int x4, .int x5, .int x6, .int x7, .null, .null], [.int x1], updL w 34 1 ((w.2 34 1) + 1))) 5 rfl).trans <|
    (runs_if_f (a := 237) (b := 241) (L := [.null, .int x1, .null, .int x3, .int x4, .int x5, .int x6, .int x7, .null, .null]) (st := []) (w := updL w 34 1 ((w.2 34 1) + 1)) rfl h3).trans <|
    (runs_stps (q' := (243, [.null, .int x1, .null, .int x3, .int x4, .int x5, .int x6, .int x7, .null, .null], [.int 1, .int x1], updL w 34 1 ((w.2 34 1) + 1))) 2 rfl).trans <|
    (runs_if_f (a := 246) (b := 251) (L := [.null, .int x1, .null, .int x3, .int x4, .int x5, .int x6, .int x7, .null, .null]) (st := []) (w := updL w 34 1 ((w.2 34 1) + 1)) rfl h4).trans <|
    (runs_stps (q' := (253, [.null, .int x1, .null, .int x3, .int x4, .int x5, .int x6, .int x7, .null, .null], [.int 2, .int x1], updL w 34 1 ((w.2 34 1) + 1))) 2 rfl).trans <|
    (runs_if_t (a := 256) (b := 261) (L := [.null, .int x1, .null, .int x3, .int x4, .int x5, .int x6, .int x7, .null, .null]) (st := []) (w := updL w 34 1 ((w.2 34 1) + 1)) rfl h5).trans <|
    (runs_stps (q' := (290, [.null, .int x1, .null, .int x3, .int x4, .int x5, .int x6, .int x7, .null, .null], [.int x5], updL w 34 1 ((w.2 34 1) + 1))) 2 rfl).trans <|
    runs_ret rfl
theorem p_X9_rate_109TFTF_R {ex : Ex} {x1 : Int32} {x2 : Int32} {x3 : Int32} {x4 : Int32} {x5 : Int32} {x6 : Int32} {x7 : Int32} {x8 : Int32} {v9 : Value} {w : Wd} (h1 : (w.1 34 14) ≤ x8) (h2 : x1 = 0) (h3 : ¬ x1 = 0) (h4 : x1 = 1) : runs (T_X9_rate ex) (109, [.ref 34, .int x1, .int x2, .int x3, .int x4, .int x5, .int x6, .int x7, .int x8, v9], [], w) = some (some (.int x4), updL w 34 1 ((w.2 34 1) + 1)) := 
    (runs_stps (q' := (115, [.ref 34, .int x1, .int x2, .int x3, .int x4, .int x5, .int x6, .int x7, .int x8, .null], [.int (w.1 34 14), .int x8], w)) 3 rfl).trans <|
    (runs_if_t (a := 169) (b := 118) (L := [.ref 34, .int x1, .int x2, .int x3, .int x4, .int x5, .int x6, .int x7, .int x8, .null]) (st := []) (w := w) rfl h1).trans <|
    (runs_stps (q' := (175, [.ref 34, .int x1, .null, .int x3, .int x4, .int x5, .int x6, .int x7, .null, .null], [.int x1, .long (w.2 34 1), .ref 34], w)) 4 rfl).trans <|
    (runs_if_t (a := 178) (b := 182) (L := [.ref 34, .int x1, .null, .int x3, .int x4, .int x5, .int x6, .int x7, .null, .null]) (st := [.long (w.2 34 1), .ref 34]) (w := w) rfl h2).trans <|
    (runs_stps (q' := (234, [.null, .int x1, .null, .int x3, .int x4, .int x5, .int x6, .int x7, .null, .null], [.int x1], updL w 34 1 ((w.2 34 1) + 1))) 5 rfl).trans <|
    (runs_if_f (a := 237) (b := 241) (L := [.null, .int x1, .null, .int x3, .int x4, .int x5, .int x6, .int x7, .null, .null]) (st := []) (w := updL w 34 1 ((w.2 34 1) + 1)) rfl h3).trans <|
    (runs_stps (q' := (243, [.null, .int x1, .null, .int x3, .int x4, .int x5, .int x6, .int x7, .null, .null], [.int 1, .int x1], updL w 34 1 ((w.2 34 1) + 1))) 2 rfl).trans <|
    (runs_if_t (a := 246) (b := 251) (L := [.null, .int x1, .null, .int x3, .int x4, .int x5, .int x6, .int x7, .null, .null]) (st := []) (w := updL w 34 1 ((w.2 34 1) + 1)) rfl h4).trans <|
    (runs_stps (q' := (290, [.null, .int x1, .null, .int x3, .int x4, .int x5, .int x6, .int x7, .null, .null], [.int x4], updL w 34 1 ((w.2 34 1) + 1))) 2 rfl).trans <|
    runs_ret rfl
theorem p_X9_rate_109TFF_R {ex : Ex} {x1 : Int32} {x2 : Int32} {x3 : Int32} {x4 : Int32} {x5 : Int32} {x6 : Int32} {x7 : Int32} {x8 : Int32} {v9 : Value} {w : Wd} (h1 : (w.1 34 14) ≤ x8) (h2 : x1 = 0) (h3 : x1 = 0) : runs (T_X9_rate ex) (109, [.ref 34, .int x1, .int x2, .int x3, .int x4, .int x5, .int x6, .int x7, .int x8, v9], [], w) = some (some (.int x3), updL w 34 1 ((w.2 34 1) + 1)) := 
    (runs_stps (q' := (115, [.ref 34, .int x1, .int x2, .int x3, .int x4, .int x5, .int x6, .int x7, .int x8, .null], [.int (w.1 34 14), .int x8], w)) 3 rfl).trans <|
    (runs_if_t (a := 169) (b := 118) (L := [.ref 34, .int x1, .int x2, .int x3, .int x4, .int x5, .int x6, .int x7, .int x8, .null]) (st := []) (w := w) rfl h1).trans <|
    (runs_stps (q' := (175, [.ref 34, .int x1, .null, .int x3, .int x4, .int x5, .int x6, .int x7, .null, .null], [.int x1, .long (w.2 34 1), .ref 34], w)) 4 rfl).trans <|
    (runs_if_t (a := 178) (b := 182) (L := [.ref 34, .int x1, .null, .int x3, .int x4, .int x5, .int x6, .int x7, .null, .null]) (st := [.long (w.2 34 1), .ref 34]) (w := w) rfl h2).trans <|
    (runs_stps (q' := (234, [.null, .int x1, .null, .int x3, .int x4, .int x5, .int x6, .int x7, .null, .null], [.int x1], updL w 34 1 ((w.2 34 1) + 1))) 5 rfl).trans <|
    (runs_if_t (a := 237) (b := 241) (L := [.null, .int x1, .null, .int x3, .int x4, .int x5, .int x6, .int x7, .null, .null]) (st := []) (w := updL w 34 1 ((w.2 34 1) + 1)) rfl h3).trans <|
    (runs_stps (q' := (290, [.null, .int x1, .null, .int x3, .int x4, .int x5, .int x6, .int x7, .null, .null], [.int x3], updL w 34 1 ((w.2 34 1) + 1))) 2 rfl).trans <|
    runs_ret rfl
theorem p_X9_rate_109F_L127 {ex : Ex} {x1 : Int32} {x2 : Int32} {x3 : Int32} {x4 : Int32} {x5 : Int32} {x6 : Int32} {x7 : Int32} {x8 : Int32} {v9 : Value} {w : Wd} (h1 : ¬ (w.1 34 14) ≤ x8) (h2 : vp_in x8 5) : runs (T_X9_rate ex) (109, [.ref 34, .int x1, .int x2, .int x3, .int x4, .int x5, .int x6, .int x7, .int x8, v9], [], w) = runs (T_X9_rate ex) (127, [.ref 34, .int x1, .int x2, .int x3, .int x4, .int x5, .int x6, .int x7, .int x8, .int (w.1 40 x8.toNatClampNeg)], [], w) := 
    (runs_stps (q' := (115, [.ref 34, .int x1, .int x2, .int x3, .int x4, .int x5, .int x6, .int x7, .int x8, .null], [.int (w.1 34 14), .int x8], w)) 3 rfl).trans <|
    (runs_if_f (a := 169) (b := 118) (L := [.ref 34, .int x1, .int x2, .int x3, .int x4, .int x5, .int x6, .int x7, .int x8, .null]) (st := []) (w := w) rfl h1).trans <|
    (runs_stps (q' := (124, [.ref 34, .int x1, .int x2, .int x3, .int x4, .int x5, .int x6, .int x7, .int x8, .null], [.int x8, .ref 40], w)) 3 rfl).trans <|
    (runs_ck (q' := (125, [.ref 34, .int x1, .int x2, .int x3, .int x4, .int x5, .int x6, .int x7, .int x8, .null], [.int (w.1 40 x8.toNatClampNeg)], w)) rfl h2).trans <|
    (runs_stps (q' := (127, [.ref 34, .int x1, .int x2, .int x3, .int x4, .int x5, .int x6, .int x7, .int x8, .int (w.1 40 x8.toNatClampNeg)], [], w)) 1 rfl).trans <|
    rfl
theorem p_X9_rate_127T_L109 {ex : Ex} {x1 : Int32} {x2 : Int32} {x3 : Int32} {x4 : Int32} {x5 : Int32} {x6 : Int32} {x7 : Int32} {x8 : Int32} {x9 : Int32} {w : Wd} (h1 : x9 ≤ 0) : runs (T_X9_rate ex) (127, [.ref 34, .int x1, .int x2, .int x3, .int x4, .int x5, .int x6, .int x7, .int x8, .int x9], [], w) = runs (T_X9_rate ex) (109, [.ref 34, .int x1, .int x2, .int x3, .int x4, .int x5, .int x6, .int x7, .int (x8 + 1), .null], [], w) := 
    (runs_stps (q' := (129, [.ref 34, .int x1, .int x2, .int x3, .int x4, .int x5, .int x6, .int x7, .int x8, .int x9], [.int x9], w)) 1 rfl).trans <|
    (runs_if_t (a := 163) (b := 132) (L := [.ref 34, .int x1, .int x2, .int x3, .int x4, .int x5, .int x6, .int x7, .int x8, .int x9]) (st := []) (w := w) rfl h1).trans <|
    (runs_stps (q' := (109, [.ref 34, .int x1, .int x2, .int x3, .int x4, .int x5, .int x6, .int x7, .int (x8 + 1), .null], [], w)) 2 rfl).trans <|
    rfl
theorem p_X9_rate_127FT_L127 {ex : Ex} {x1 : Int32} {x2 : Int32} {x3 : Int32} {x4 : Int32} {x5 : Int32} {x6 : Int32} {x7 : Int32} {x8 : Int32} {x9 : Int32} {w : Wd} (h1 : ¬ x9 ≤ 0) (h2 : ¬ (x9 - x9 / 6 * 6) = (x2 + 1)) : runs (T_X9_rate ex) (127, [.ref 34, .int x1, .int x2, .int x3, .int x4, .int x5, .int x6, .int x7, .int x8, .int x9], [], w) = runs (T_X9_rate ex) (127, [.ref 34, .int x1, .int x2, .int x3, .int x4, .int x5, .int x6, .int (x7 + 0), .int x8, .int (x9 / 6)], [], w) := 
    (runs_stps (q' := (129, [.ref 34, .int x1, .int x2, .int x3, .int x4, .int x5, .int x6, .int x7, .int x8, .int x9], [.int x9], w)) 1 rfl).trans <|
    (runs_if_f (a := 163) (b := 132) (L := [.ref 34, .int x1, .int x2, .int x3, .int x4, .int x5, .int x6, .int x7, .int x8, .int x9]) (st := []) (w := w) rfl h1).trans <|
    (runs_stps (q' := (142, [.ref 34, .int x1, .int x2, .int x3, .int x4, .int x5, .int x6, .int x7, .int x8, .int x9], [.int (x2 + 1), .int (x9 - x9 / 6 * 6), .int x7], w)) 7 rfl).trans <|
    (runs_if_f (a := 145) (b := 149) (L := [.ref 34, .int x1, .int x2, .int x3, .int x4, .int x5, .int x6, .int x7, .int x8, .int x9]) (st := [.int x7]) (w := w) rfl h2).trans <|
    (runs_stps (q' := (127, [.ref 34, .int x1, .int x2, .int x3, .int x4, .int x5, .int x6, .int (x7 + 0), .int x8, .int (x9 / 6)], [], w)) 8 rfl).trans <|
    rfl
theorem p_X9_rate_127FF_L127 {ex : Ex} {x1 : Int32} {x2 : Int32} {x3 : Int32} {x4 : Int32} {x5 : Int32} {x6 : Int32} {x7 : Int32} {x8 : Int32} {x9 : Int32} {w : Wd} (h1 : ¬ x9 ≤ 0) (h2 : (x9 - x9 / 6 * 6) = (x2 + 1)) : runs (T_X9_rate ex) (127, [.ref 34, .int x1, .int x2, .int x3, .int x4, .int x5, .int x6, .int x7, .int x8, .int x9], [], w) = runs (T_X9_rate ex) (127, [.ref 34, .int x1, .int x2, .int x3, .int x4, .int x5, .int x6, .int (x7 + 1), .int x8, .int (x9 / 6)], [], w) := 
    (runs_stps (q' := (129, [.ref 34, .int x1, .int x2, .int x3, .int x4, .int x5, .int x6, .int x7, .int x8, .int x9], [.int x9], w)) 1 rfl).trans <|
    (runs_if_f (a := 163) (b := 132) (L := [.ref 34, .int x1, .int x2, .int x3, .int x4, .int x5, .int x6, .int x7, .int x8, .int x9]) (st := []) (w := w) rfl h1).trans <|
    (runs_stps (q' := (142, [.ref 34, .int x1, .int x2, .int x3, .int x4, .int x5, .int x6, .int x7, .int x8, .int x9], [.int (x2 + 1), .int (x9 - x9 / 6 * 6), .int x7], w)) 7 rfl).trans <|
    (runs_if_t (a := 145) (b := 149) (L := [.ref 34, .int x1, .int x2, .int x3, .int x4, .int x5, .int x6, .int x7, .int x8, .int x9]) (st := [.int x7]) (w := w) rfl h2).trans <|
    (runs_stps (q' := (127, [.ref 34, .int x1, .int x2, .int x3, .int x4, .int x5, .int x6, .int (x7 + 1), .int x8, .int (x9 / 6)], [], w)) 9 rfl).trans <|
    rfl
theorem p_X9_keep_0T_L18 {ex : Ex} {x1 : Int32} {r1 : Int32} {w1 : Wd} {w : Wd} (h1 : ex 135 [.int x1, .int 0, .int 1] (updI w 34 0 0) = some (some (.int r1), w1)) (h2 : ¬ r1 = 0) : runs (T_X9_keep ex) (0, [.ref 34, .int x1, .null], [], w) = runs (T_X9_keep ex) (18, [.ref 34, .int x1, .int 0], [], w1) := 
    (runs_stps (q' := (8, [.ref 34, .int x1, .null], [.int 1, .int 0, .int x1], updI w 34 0 0)) 6 rfl).trans <|
    (runs_callS (rv := some (.int r1)) (w' := w1) rfl rfl rfl h1).trans <|
    (runs_if_f (a := 14) (b := 16) (L := [.ref 34, .int x1, .null]) (st := []) (w := w1) rfl h2).trans <|
    (runs_stps (q' := (18, [.ref 34, .int x1, .int 0], [], w1)) 2 rfl).trans <|
    rfl
theorem p_X9_keep_0F_R {ex : Ex} {x1 : Int32} {r1 : Int32} {w1 : Wd} {w : Wd} (h1 : ex 135 [.int x1, .int 0, .int 1] (updI w 34 0 0) = some (some (.int r1), w1)) (h2 : r1 = 0) : runs (T_X9_keep ex) (0, [.ref 34, .int x1, .null], [], w) = some (some (.int (-1)), w1) := 
    (runs_stps (q' := (8, [.ref 34, .int x1, .null], [.int 1, .int 0, .int x1], updI w 34 0 0)) 6 rfl).trans <|
    (runs_callS (rv := some (.int r1)) (w' := w1) rfl rfl rfl h1).trans <|
    (runs_if_t (a := 14) (b := 16) (L := [.ref 34, .int x1, .null]) (st := []) (w := w1) rfl h2).trans <|
    (runs_stps (q' := (15, [.ref 34, .int x1, .null], [.int (-1)], w1)) 1 rfl).trans <|
    runs_ret rfl
theorem p_X9_keep_18T_R {ex : Ex} {x1 : Int32} {x2 : Int32} {w : Wd} (h1 : 5 ≤ x2) (h2 : vp_in x1 2) : runs (T_X9_keep ex) (18, [.ref 34, .int x1, .int x2], [], w) = some (some (.int (w.1 40 4)), updI w 42 x1.toNatClampNeg (vp_nar .boolean 1)) := 
    (runs_stps (q' := (20, [.ref 34, .int x1, .int x2], [.int 5, .int x2], w)) 2 rfl).trans <|
    (runs_if_t (a := 45) (b := 23) (L := [.ref 34, .int x1, .int x2]) (st := []) (w := w) rfl h1).trans <|
    (runs_stps (q' := (51, [.ref 34, .int x1, .null], [.int 1, .int x1, .ref 42], w)) 4 rfl).trans <|
    (runs_ck (q' := (52, [.ref 34, .int x1, .null], [], updI w 42 x1.toNatClampNeg (vp_nar .boolean 1))) rfl h2).trans <|
    (runs_stps (q' := (58, [.ref 34, .int x1, .null], [.int (w.1 40 4)], updI w 42 x1.toNatClampNeg (vp_nar .boolean 1))) 4 rfl).trans <|
    runs_ret rfl
theorem p_X9_keep_18F_L18 {ex : Ex} {x1 : Int32} {x2 : Int32} {w : Wd} (h1 : ¬ 5 ≤ x2) (h2 : vp_in x2 5) (h3 : vp_in ((5 * x1) + x2) 10) : runs (T_X9_keep ex) (18, [.ref 34, .int x1, .int x2], [], w) = runs (T_X9_keep ex) (18, [.ref 34, .int x1, .int (x2 + 1)], [], updI w 41 (((5 * x1) + x2).toNatClampNeg) (w.1 40 x2.toNatClampNeg)) := 
    (runs_stps (q' := (20, [.ref 34, .int x1, .int x2], [.int 5, .int x2], w)) 2 rfl).trans <|
    (runs_if_f (a := 45) (b := 23) (L := [.ref 34, .int x1, .int x2]) (st := []) (w := w) rfl h1).trans <|
    (runs_stps (q' := (37, [.ref 34, .int x1, .int x2], [.int x2, .ref 40, .int ((5 * x1) + x2), .ref 41], w)) 10 rfl).trans <|
    (runs_ck (q' := (38, [.ref 34, .int x1, .int x2], [.int (w.1 40 x2.toNatClampNeg), .int ((5 * x1) + x2), .ref 41], w)) rfl h2).trans <|
    (runs_ck (q' := (39, [.ref 34, .int x1, .int x2], [], updI w 41 (((5 * x1) + x2).toNatClampNeg) (w.1 40 x2.toNatClampNeg))) rfl h3).trans <|
    (runs_stps (q' := (18, [.ref 34, .int x1, .int (x2 + 1)], [], updI w 41 (((5 * x1) + x2).toNatClampNeg) (w.1 40 x2.toNatClampNeg))) 2 rfl).trans <|
    rfl
theorem p_X9_back_0TT_L30 {ex : Ex} {x1 : Int32} {r1 : Int32} {w1 : Wd} {w : Wd} (h1 : ex 135 [.int x1, .int 0, .int 1] (updI w 34 0 0) = some (some (.int r1), w1)) (h2 : ¬ r1 = 0) (h3 : vp_in x1 2) (h4 : ¬ (w1.1 42 x1.toNatClampNeg) = 0) : runs (T_X9_back ex) (0, [.ref 34, .int x1, .null], [], w) = runs (T_X9_back ex) (30, [.ref 34, .int x1, .int 0], [], w1) := 
    (runs_stps (q' := (8, [.ref 34, .int x1, .null], [.int 1, .int 0, .int x1], updI w 34 0 0)) 6 rfl).trans <|
    (runs_callS (rv := some (.int r1)) (w' := w1) rfl rfl rfl h1).trans <|
    (runs_if_f (a := 14) (b := 16) (L := [.ref 34, .int x1, .null]) (st := []) (w := w1) rfl h2).trans <|
    (runs_stps (q' := (21, [.ref 34, .int x1, .null], [.int x1, .ref 42], w1)) 3 rfl).trans <|
    (runs_ck (q' := (22, [.ref 34, .int x1, .null], [.int (w1.1 42 x1.toNatClampNeg)], w1)) rfl h3).trans <|
    (runs_if_f (a := 25) (b := 28) (L := [.ref 34, .int x1, .null]) (st := []) (w := w1) rfl h4).trans <|
    (runs_stps (q' := (30, [.ref 34, .int x1, .int 0], [], w1)) 2 rfl).trans <|
    rfl
theorem p_X9_back_0TF_R {ex : Ex} {x1 : Int32} {r1 : Int32} {w1 : Wd} {w : Wd} (h1 : ex 135 [.int x1, .int 0, .int 1] (updI w 34 0 0) = some (some (.int r1), w1)) (h2 : ¬ r1 = 0) (h3 : vp_in x1 2) (h4 : (w1.1 42 x1.toNatClampNeg) = 0) : runs (T_X9_back ex) (0, [.ref 34, .int x1, .null], [], w) = some (some (.int (-2)), w1) := 
    (runs_stps (q' := (8, [.ref 34, .int x1, .null], [.int 1, .int 0, .int x1], updI w 34 0 0)) 6 rfl).trans <|
    (runs_callS (rv := some (.int r1)) (w' := w1) rfl rfl rfl h1).trans <|
    (runs_if_f (a := 14) (b := 16) (L := [.ref 34, .int x1, .null]) (st := []) (w := w1) rfl h2).trans <|
    (runs_stps (q' := (21, [.ref 34, .int x1, .null], [.int x1, .ref 42], w1)) 3 rfl).trans <|
    (runs_ck (q' := (22, [.ref 34, .int x1, .null], [.int (w1.1 42 x1.toNatClampNeg)], w1)) rfl h3).trans <|
    (runs_if_t (a := 25) (b := 28) (L := [.ref 34, .int x1, .null]) (st := []) (w := w1) rfl h4).trans <|
    (runs_stps (q' := (27, [.ref 34, .int x1, .null], [.int (-2)], w1)) 1 rfl).trans <|
    runs_ret rfl
theorem p_X9_back_0F_R {ex : Ex} {x1 : Int32} {r1 : Int32} {w1 : Wd} {w : Wd} (h1 : ex 135 [.int x1, .int 0, .int 1] (updI w 34 0 0) = some (some (.int r1), w1)) (h2 : r1 = 0) : runs (T_X9_back ex) (0, [.ref 34, .int x1, .null], [], w) = some (some (.int (-1)), w1) := 
    (runs_stps (q' := (8, [.ref 34, .int x1, .null], [.int 1, .int 0, .int x1], updI w 34 0 0)) 6 rfl).trans <|
    (runs_callS (rv := some (.int r1)) (w' := w1) rfl rfl rfl h1).trans <|
    (runs_if_t (a := 14) (b := 16) (L := [.ref 34, .int x1, .null]) (st := []) (w := w1) rfl h2).trans <|
    (runs_stps (q' := (15, [.ref 34, .int x1, .null], [.int (-1)], w1)) 1 rfl).trans <|
    runs_ret rfl
theorem p_X9_back_30T_R {ex : Ex} {x1 : Int32} {x2 : Int32} {w : Wd} (h1 : 5 ≤ x2) : runs (T_X9_back ex) (30, [.ref 34, .int x1, .int x2], [], w) = some (some (.int (w.1 40 4)), updI w 34 23 0) := 
    (runs_stps (q' := (32, [.ref 34, .int x1, .int x2], [.int 5, .int x2], w)) 2 rfl).trans <|
    (runs_if_t (a := 57) (b := 35) (L := [.ref 34, .int x1, .int x2]) (st := []) (w := w) rfl h1).trans <|
    (runs_stps (q' := (68, [.ref 34, .null, .null], [.int (w.1 40 4)], updI w 34 23 0)) 7 rfl).trans <|
    runs_ret rfl
theorem p_X9_back_30F_L30 {ex : Ex} {x1 : Int32} {x2 : Int32} {w : Wd} (h1 : ¬ 5 ≤ x2) (h2 : vp_in ((5 * x1) + x2) 10) (h3 : vp_in x2 5) : runs (T_X9_back ex) (30, [.ref 34, .int x1, .int x2], [], w) = runs (T_X9_back ex) (30, [.ref 34, .int x1, .int (x2 + 1)], [], updI w 40 x2.toNatClampNeg (w.1 41 (((5 * x1) + x2).toNatClampNeg))) := 
    (runs_stps (q' := (32, [.ref 34, .int x1, .int x2], [.int 5, .int x2], w)) 2 rfl).trans <|
    (runs_if_f (a := 57) (b := 35) (L := [.ref 34, .int x1, .int x2]) (st := []) (w := w) rfl h1).trans <|
    (runs_stps (q' := (49, [.ref 34, .int x1, .int x2], [.int ((5 * x1) + x2), .ref 41, .int x2, .ref 40], w)) 10 rfl).trans <|
    (runs_ck (q' := (50, [.ref 34, .int x1, .int x2], [.int (w.1 41 (((5 * x1) + x2).toNatClampNeg)), .int x2, .ref 40], w)) rfl h2).trans <|
    (runs_ck (q' := (51, [.ref 34, .int x1, .int x2], [], updI w 40 x2.toNatClampNeg (w.1 41 (((5 * x1) + x2).toNatClampNeg)))) rfl h3).trans <|
    (runs_stps (q' := (30, [.ref 34, .int x1, .int (x2 + 1)], [], updI w 40 x2.toNatClampNeg (w.1 41 (((5 * x1) + x2).toNatClampNeg)))) 2 rfl).trans <|
    rfl
theorem p_X9_count_0TTT_R {ex : Ex} {x1 : Int32} {r1 : Int32} {w1 : Wd} {w : Wd} (h1 : 4 ≤ x1) (h2 : ¬ x1 = 4) (h3 : ex 135 [.int x1, .int 5, .int 7] (updI w 34 0 0) = some (some (.int r1), w1)) (h4 : r1 = 0) : runs (T_X9_count ex) (0, [.ref 34, .int x1], [], w) = some (some (.int (-1)), w1) := 
    (runs_stps (q' := (7, [.ref 34, .int x1], [.int 4, .int x1], updI w 34 0 0)) 5 rfl).trans <|
    (runs_if_t (a := 59) (b := 10) (L := [.ref 34, .int x1]) (st := []) (w := updI w 34 0 0) rfl h1).trans <|
    (runs_stps (q' := (61, [.ref 34, .int x1], [.int 4, .int x1], updI w 34 0 0)) 2 rfl).trans <|
    (runs_if_f (a := 64) (b := 71) (L := [.ref 34, .int x1]) (st := []) (w := updI w 34 0 0) rfl h2).trans <|
    (runs_stps (q' := (75, [.ref 34, .int x1], [.int 7, .int 5, .int x1], updI w 34 0 0)) 3 rfl).trans <|
    (runs_callS (rv := some (.int r1)) (w' := w1) rfl rfl rfl h3).trans <|
    (runs_if_t (a := 94) (b := 81) (L := [.ref 34, .int x1]) (st := []) (w := w1) rfl h4).trans <|
    (runs_stps (q' := (95, [.null, .null], [.int (-1)], w1)) 1 rfl).trans <|
    runs_ret rfl
theorem p_X9_count_0TTF_R {ex : Ex} {x1 : Int32} {r1 : Int32} {w1 : Wd} {w : Wd} (h1 : 4 ≤ x1) (h2 : ¬ x1 = 4) (h3 : ex 135 [.int x1, .int 5, .int 7] (updI w 34 0 0) = some (some (.int r1), w1)) (h4 : ¬ r1 = 0) (h5 : vp_in ((3 + x1) - 5) 12) : runs (T_X9_count ex) (0, [.ref 34, .int x1], [], w) = some (some (.int (w1.1 39 (((3 + x1) - 5).toNatClampNeg))), w1) := 
    (runs_stps (q' := (7, [.ref 34, .int x1], [.int 4, .int x1], updI w 34 0 0)) 5 rfl).trans <|
    (runs_if_t (a := 59) (b := 10) (L := [.ref 34, .int x1]) (st := []) (w := updI w 34 0 0) rfl h1).trans <|
    (runs_stps (q' := (61, [.ref 34, .int x1], [.int 4, .int x1], updI w 34 0 0)) 2 rfl).trans <|
    (runs_if_f (a := 64) (b := 71) (L := [.ref 34, .int x1]) (st := []) (w := updI w 34 0 0) rfl h2).trans <|
    (runs_stps (q' := (75, [.ref 34, .int x1], [.int 7, .int 5, .int x1], updI w 34 0 0)) 3 rfl).trans <|
    (runs_callS (rv := some (.int r1)) (w' := w1) rfl rfl rfl h3).trans <|
    (runs_if_f (a := 94) (b := 81) (L := [.ref 34, .int x1]) (st := []) (w := w1) rfl h4).trans <|
    (runs_stps (q' := (90, [.ref 34, .int x1], [.int ((3 + x1) - 5), .ref 39], w1)) 7 rfl).trans <|
    (runs_ck (q' := (91, [.ref 34, .int x1], [.int (w1.1 39 (((3 + x1) - 5).toNatClampNeg))], w1)) rfl h5).trans <|
    (runs_stps (q' := (95, [.ref 34, .int x1], [.int (w1.1 39 (((3 + x1) - 5).toNatClampNeg))], w1)) 1 rfl).trans <|
    runs_ret rfl
theorem p_X9_count_0TF_R {ex : Ex} {x1 : Int32} {w : Wd} (h1 : 4 ≤ x1) (h2 : x1 = 4) : runs (T_X9_count ex) (0, [.ref 34, .int x1], [], w) = some (some (.int (w.1 34 3)), updI w 34 0 0) := 
    (runs_stps (q' := (7, [.ref 34, .int x1], [.int 4, .int x1], updI w 34 0 0)) 5 rfl).trans <|
    (runs_if_t (a := 59) (b := 10) (L := [.ref 34, .int x1]) (st := []) (w := updI w 34 0 0) rfl h1).trans <|
    (runs_stps (q' := (61, [.ref 34, .int x1], [.int 4, .int x1], updI w 34 0 0)) 2 rfl).trans <|
    (runs_if_t (a := 64) (b := 71) (L := [.ref 34, .int x1]) (st := []) (w := updI w 34 0 0) rfl h2).trans <|
    (runs_stps (q' := (95, [.ref 34, .int x1], [.int (w.1 34 3)], updI w 34 0 0)) 3 rfl).trans <|
    runs_ret rfl
theorem p_X9_count_0FTTTT_R {ex : Ex} {x1 : Int32} {w : Wd} (h1 : ¬ 4 ≤ x1) (h2 : ¬ x1 = 0) (h3 : ¬ x1 = 1) (h4 : ¬ x1 = 2) (h5 : ¬ x1 = 3) : runs (T_X9_count ex) (0, [.ref 34, .int x1], [], w) = some (some (.int (-1)), updI w 34 0 0) := 
    (runs_stps (q' := (7, [.ref 34, .int x1], [.int 4, .int x1], updI w 34 0 0)) 5 rfl).trans <|
    (runs_if_f (a := 59) (b := 10) (L := [.ref 34, .int x1]) (st := []) (w := updI w 34 0 0) rfl h1).trans <|
    (runs_stps (q' := (11, [.ref 34, .int x1], [.int x1], updI w 34 0 0)) 1 rfl).trans <|
    (runs_if_f (a := 14) (b := 21) (L := [.ref 34, .int x1]) (st := []) (w := updI w 34 0 0) rfl h2).trans <|
    (runs_stps (q' := (23, [.ref 34, .int x1], [.int 1, .int x1], updI w 34 0 0)) 2 rfl).trans <|
    (runs_if_f (a := 26) (b := 33) (L := [.ref 34, .int x1]) (st := []) (w := updI w 34 0 0) rfl h3).trans <|
    (runs_stps (q' := (35, [.ref 34, .int x1], [.int 2, .int x1], updI w 34 0 0)) 2 rfl).trans <|
    (runs_if_f (a := 38) (b := 45) (L := [.ref 34, .int x1]) (st := []) (w := updI w 34 0 0) rfl h4).trans <|
    (runs_stps (q' := (47, [.ref 34, .int x1], [.int 3, .int x1], updI w 34 0 0)) 2 rfl).trans <|
    (runs_if_f (a := 50) (b := 57) (L := [.ref 34, .int x1]) (st := []) (w := updI w 34 0 0) rfl h5).trans <|
    (runs_stps (q' := (58, [.null, .null], [.int (-1)], updI w 34 0 0)) 1 rfl).trans <|
    runs_ret rfl
theorem p_X9_count_0FTTTF_R {ex : Ex} {x1 : Int32} {w : Wd} (h1 : ¬ 4 ≤ x1) (h2 : ¬ x1 = 0) (h3 : ¬ x1 = 1) (h4 : ¬ x1 = 2) (h5 : x1 = 3) : runs (T_X9_count ex) (0, [.ref 34, .int x1], [], w) = some (some (.int (w.1 34 26)), updI w 34 0 0) := 
    (runs_stps (q' := (7, [.ref 34, .int x1], [.int 4, .int x1], updI w 34 0 0)) 5 rfl).trans <|
    (runs_if_f (a := 59) (b := 10) (L := [.ref 34, .int x1]) (st := []) (w := updI w 34 0 0) rfl h1).trans <|
    (runs_stps (q' := (11, [.ref 34, .int x1], [.int x1], updI w 34 0 0)) 1 rfl).trans <|
    (runs_if_f (a := 14) (b := 21) (L := [.ref 34, .int x1]) (st := []) (w := updI w 34 0 0) rfl h2).trans <|
    (runs_stps (q' := (23, [.ref 34, .int x1], [.int 1, .int x1], updI w 34 0 0)) 2 rfl).trans <|
    (runs_if_f (a := 26) (b := 33) (L := [.ref 34, .int x1]) (st := []) (w := updI w 34 0 0) rfl h3).trans <|
    (runs_stps (q' := (35, [.ref 34, .int x1], [.int 2, .int x1], updI w 34 0 0)) 2 rfl).trans <|
    (runs_if_f (a := 38) (b := 45) (L := [.ref 34, .int x1]) (st := []) (w := updI w 34 0 0) rfl h4).trans <|
    (runs_stps (q' := (47, [.ref 34, .int x1], [.int 3, .int x1], updI w 34 0 0)) 2 rfl).trans <|
    (runs_if_t (a := 50) (b := 57) (L := [.ref 34, .int x1]) (st := []) (w := updI w 34 0 0) rfl h5).trans <|
    (runs_stps (q' := (58, [.ref 34, .int x1], [.int (w.1 34 26)], updI w 34 0 0)) 3 rfl).trans <|
    runs_ret rfl
theorem p_X9_count_0FTTF_R {ex : Ex} {x1 : Int32} {w : Wd} (h1 : ¬ 4 ≤ x1) (h2 : ¬ x1 = 0) (h3 : ¬ x1 = 1) (h4 : x1 = 2) : runs (T_X9_count ex) (0, [.ref 34, .int x1], [], w) = some (some (.int (w.1 34 15)), updI w 34 0 0) := 
    (runs_stps (q' := (7, [.ref 34, .int x1], [.int 4, .int x1], updI w 34 0 0)) 5 rfl).trans <|
    (runs_if_f (a := 59) (b := 10) (L := [.ref 34, .int x1]) (st := []) (w := updI w 34 0 0) rfl h1).trans <|
    (runs_stps (q' := (11, [.ref 34, .int x1], [.int x1], updI w 34 0 0)) 1 rfl).trans <|
    (runs_if_f (a := 14) (b := 21) (L := [.ref 34, .int x1]) (st := []) (w := updI w 34 0 0) rfl h2).trans <|
    (runs_stps (q' := (23, [.ref 34, .int x1], [.int 1, .int x1], updI w 34 0 0)) 2 rfl).trans <|
    (runs_if_f (a := 26) (b := 33) (L := [.ref 34, .int x1]) (st := []) (w := updI w 34 0 0) rfl h3).trans <|
    (runs_stps (q' := (35, [.ref 34, .int x1], [.int 2, .int x1], updI w 34 0 0)) 2 rfl).trans <|
    (runs_if_t (a := 38) (b := 45) (L := [.ref 34, .int x1]) (st := []) (w := updI w 34 0 0) rfl h4).trans <|
    (runs_stps (q' := (58, [.ref 34, .int x1], [.int (w.1 34 15)], updI w 34 0 0)) 3 rfl).trans <|
    runs_ret rfl
theorem p_X9_count_0FTF_R {ex : Ex} {x1 : Int32} {w : Wd} (h1 : ¬ 4 ≤ x1) (h2 : ¬ x1 = 0) (h3 : x1 = 1) : runs (T_X9_count ex) (0, [.ref 34, .int x1], [], w) = some (some (.int (w.1 34 14)), updI w 34 0 0) := 
    (runs_stps (q' := (7, [.ref 34, .int x1], [.int 4, .int x1], updI w 34 0 0)) 5 rfl).trans <|
    (runs_if_f (a := 59) (b := 10) (L := [.ref 34, .int x1]) (st := []) (w := updI w 34 0 0) rfl h1).trans <|
    (runs_stps (q' := (11, [.ref 34, .int x1], [.int x1], updI w 34 0 0)) 1 rfl).trans <|
    (runs_if_f (a := 14) (b := 21) (L := [.ref 34, .int x1]) (st := []) (w := updI w 34 0 0) rfl h2).trans <|
    (runs_stps (q' := (23, [.ref 34, .int x1], [.int 1, .int x1], updI w 34 0 0)) 2 rfl).trans <|
    (runs_if_t (a := 26) (b := 33) (L := [.ref 34, .int x1]) (st := []) (w := updI w 34 0 0) rfl h3).trans <|
    (runs_stps (q' := (58, [.ref 34, .int x1], [.int (w.1 34 14)], updI w 34 0 0)) 3 rfl).trans <|
    runs_ret rfl
theorem p_X9_count_0FF_R {ex : Ex} {x1 : Int32} {w : Wd} (h1 : ¬ 4 ≤ x1) (h2 : x1 = 0) : runs (T_X9_count ex) (0, [.ref 34, .int x1], [], w) = some (some (.int (w.1 34 13)), updI w 34 0 0) := 
    (runs_stps (q' := (7, [.ref 34, .int x1], [.int 4, .int x1], updI w 34 0 0)) 5 rfl).trans <|
    (runs_if_f (a := 59) (b := 10) (L := [.ref 34, .int x1]) (st := []) (w := updI w 34 0 0) rfl h1).trans <|
    (runs_stps (q' := (11, [.ref 34, .int x1], [.int x1], updI w 34 0 0)) 1 rfl).trans <|
    (runs_if_t (a := 14) (b := 21) (L := [.ref 34, .int x1]) (st := []) (w := updI w 34 0 0) rfl h2).trans <|
    (runs_stps (q' := (58, [.ref 34, .int x1], [.int (w.1 34 13)], updI w 34 0 0)) 3 rfl).trans <|
    runs_ret rfl
theorem p_X9_trace_0_R {ex : Ex} {w : Wd} : runs (T_X9_trace ex) (0, [.ref 34], [], w) = some (some (.long (w.2 34 1)), updI w 34 0 0) := 
    (runs_stps (q' := (9, [.ref 34], [.long (w.2 34 1)], updI w 34 0 0)) 5 rfl).trans <|
    runs_ret rfl

/-! steps of runs, and every path of every method between its heads (printed by a program) -/
theorem runs_if_t {T : Tb} {q : Mu} {c : Prop} {hc0 : Decidable c} {a b : Nat} {L st : List Value} {w : Wd} (h : stp T q = some (.inl (if c then a else b, L, st, w))) (hc : c) : runs T q = runs T (a, L, st, w) := by
  rw [if_pos hc] at h
  exact runs_stp h
theorem runs_if_f {T : Tb} {q : Mu} {c : Prop} {hc0 : Decidable c} {a b : Nat} {L st : List Value} {w : Wd} (h : stp T q = some (.inl (if c then a else b, L, st, w))) (hc : ¬ c) : runs T q = runs T (b, L, st, w) := by
  rw [if_neg hc] at h
  exact runs_stp h
theorem runs_ck {T : Tb} {q q' : Mu} {c : Prop} {hc0 : Decidable c} (h : stp T q = if c then none else some (.inl q')) (hc : ¬ c) : runs T q = runs T q' := by
  rw [if_neg hc] at h
  exact runs_stp h
theorem runs_rck {T : Tb} {q : Mu} {r : Rs} {c : Prop} {hc0 : Decidable c} (h : stp T q = if c then some (.inr r) else none) (hc : c) : runs T q = some r := by
  rw [if_pos hc] at h
  exact runs_ret h
theorem runs_sw {T : Tb} {q : Mu} {x : Int32} {ps : List (Int32 × Nat)} {d t : Nat} {L st : List Value} {w : Wd} (h : stp T q = some (.inl (tsel x ps d, L, st, w))) (ht : tsel x ps d = t) : runs T q = runs T (t, L, st, w) := by
  rw [ht] at h
  exact runs_stp h
theorem runs_callV {T : Tb} {ex : Ex} {pc k n ci b : Nat} {L st as rest : List Value} {w w' : Wd} {rv : Option Value} (hl : lk T pc = some (oCallV ex k n ci)) (hd : (st.drop n, (st.take n).reverse) = (.ref b :: rest, as)) (hb : (Nat.beq (clsOf b) ci && Nat.ble (csum rest) 8) = true) (hz : pc + 3 = pc + 3) (hf : ex k (.ref b :: as) w = some (rv, w')) : runs T (pc, L, st, w) = runs T (pc + 3, L, rv.toList ++ rest, w') := by
  refine runs_stp ?_
  unfold stp
  dsimp only
  rw [hl]
  unfold oCallV
  dsimp only
  have h1 : st.drop n = .ref b :: rest := congrArg Prod.fst hd
  have h2 : (st.take n).reverse = as := congrArg Prod.snd hd
  rw [h1]
  dsimp only
  rw [hb, h2, hf]
theorem runs_callS {T : Tb} {ex : Ex} {pc k n : Nat} {L st as rest : List Value} {w w' : Wd} {rv : Option Value} (hl : lk T pc = some (oCallS ex k n)) (hd : (st.drop n, (st.take n).reverse) = (rest, as)) (hb : (Nat.ble n st.length && Nat.ble (csum (st.drop n)) 8) = true) (hf : ex k as w = some (rv, w')) : runs T (pc, L, st, w) = runs T (pc + 3, L, rv.toList ++ rest, w') := by
  refine runs_stp ?_
  unfold stp
  dsimp only
  rw [hl]
  unfold oCallS
  dsimp only
  have h1 : st.drop n = rest := congrArg Prod.fst hd
  have h2 : (st.take n).reverse = as := congrArg Prod.snd hd
  rw [hb]
  dsimp only
  rw [h2, hf, h1]
theorem runs_callT {T : Tb} {ex : Ex} {pc k n b : Nat} {L st as rest : List Value} {w w' : Wd} {rv : Option Value} (hl : lk T pc = some (oCallT ex k n)) (hd : (st.drop n, (st.take n).reverse) = (.ref b :: rest, as)) (hb : ((Nat.ble 100 b && Nat.blt b 106) && Nat.ble (csum rest) 8) = true) (hf : ex k (.ref b :: as) w = some (rv, w')) : runs T (pc, L, st, w) = runs T (pc + 3, L, rv.toList ++ rest, w') := by
  refine runs_stp ?_
  unfold stp
  dsimp only
  rw [hl]
  unfold oCallT
  dsimp only
  have h1 : st.drop n = .ref b :: rest := congrArg Prod.fst hd
  have h2 : (st.take n).reverse = as := congrArg Prod.snd hd
  rw [h1]
  dsimp only
  rw [hb, h2, hf]
theorem runs_dv {T : Tb} {pc len : Nat} {g : Int32 → Int32 → Int32} {L st : List Value} {w : Wd} {x y : Int32} (hl : lk T pc = some (pS (fDv g) len)) (hy : ¬ y = 0) : runs T (pc, L, .int y :: .int x :: st, w) = runs T (pc + len, L, .int (g x y) :: st, w) := by
  refine runs_stp ?_
  unfold stp
  dsimp only
  rw [hl]
  unfold pS fDv
  dsimp only
  rw [if_neg hy]
theorem runs_dvL {T : Tb} {pc len : Nat} {g : Int64 → Int64 → Int64} {L st : List Value} {w : Wd} {x y : Int64} (hl : lk T pc = some (pS (fDL g) len)) (hy : ¬ y = 0) : runs T (pc, L, .long y :: .long x :: st, w) = runs T (pc + len, L, .long (g x y) :: st, w) := by
  refine runs_stp ?_
  unfold stp
  dsimp only
  rw [hl]
  unfold pS fDL
  dsimp only
  rw [if_neg hy]
theorem runs_callVf {T : Tb} {ex : Ex} {pc k n ci b : Nat} {ks : List Nat} {L st as rest : List Value} {w w' : Wd} {rv : Option Value} (hl : lk T pc = some (oFg ks (oCallV ex k n ci))) (hd : (st.drop n, (st.take n).reverse) = (.ref b :: rest, as)) (hb : (Nat.beq (clsOf b) ci && Nat.ble (csum rest) 8) = true) (hz : pc + 3 = pc + 3) (hf : ex k (.ref b :: as) w = some (rv, w')) : runs T (pc, L, st, w) = runs T (pc + 3, fgt L ks, rv.toList ++ rest, w') := by
  refine runs_stp ?_
  unfold stp
  dsimp only
  rw [hl]
  unfold oFg oCallV
  dsimp only
  have h1 : st.drop n = .ref b :: rest := congrArg Prod.fst hd
  have h2 : (st.take n).reverse = as := congrArg Prod.snd hd
  rw [h1]
  dsimp only
  rw [hb, h2, hf]
theorem runs_callSf {T : Tb} {ex : Ex} {pc k n : Nat} {ks : List Nat} {L st as rest : List Value} {w w' : Wd} {rv : Option Value} (hl : lk T pc = some (oFg ks (oCallS ex k n))) (hd : (st.drop n, (st.take n).reverse) = (rest, as)) (hb : (Nat.ble n st.length && Nat.ble (csum (st.drop n)) 8) = true) (hf : ex k as w = some (rv, w')) : runs T (pc, L, st, w) = runs T (pc + 3, fgt L ks, rv.toList ++ rest, w') := by
  refine runs_stp ?_
  unfold stp
  dsimp only
  rw [hl]
  unfold oFg oCallS
  dsimp only
  have h1 : st.drop n = rest := congrArg Prod.fst hd
  have h2 : (st.take n).reverse = as := congrArg Prod.snd hd
  rw [hb]
  dsimp only
  rw [h2, hf, h1]
theorem runs_getD {T : Tb} {q : Mu} {x : Int32} {pc b : Nat} {L st : List Value} {w : Wd} (h : stp T q = some (.inl (pc, L, .ref x.toNatClampNeg :: st, w))) (hx : x = nI b) (hb : b < 2 ^ 31) : runs T q = runs T (pc, L, .ref b :: st, w) := by
  rw [hx, nI_clamp hb] at h
  exact runs_stp h
def scp (p : Nat) : Prop := p = 20 ∨ p = 27
def sca (a : Nat) : Prop := a = 100 ∨ a = 101 ∨ a = 102 ∨ a = 103 ∨ a = 104 ∨ a = 105
theorem p_X0_isWon_0TT_R {ex : Ex} {p : Nat} {x1 : Int32} {x2 : Int32} {x3 : Int32} {x4 : Int32} {x5 : Int32} {x6 : Int32} {r1 : Int32} {w1 : Wd} {w : Wd} (hp : scp p) (h1 : x5 ≤ 0) (h2 : ex 75 [.ref p, .int x1] w = some (some (.int r1), w1)) (h3 : ¬ ((r1 >>> (x4 &&& 31)) &&& 1) = 1) : runs (T_X0_isWon ex) (0, [.ref p, .int x1, .int x2, .int x3, .int x4, .int x5, .int x6, .null, .null, .null], [], w) = some (some (.int 0), w1) := by
  rcases hp with rfl | rfl
  · exact (runs_stps (q' := (2, [.ref 20, .int x1, .int x2, .int x3, .int x4, .int x5, .int x6, .null, .null, .null], [.int x5], w)) 1 rfl).trans <|
    (runs_if_t (a := 11) (b := 5) (L := [.ref 20, .int x1, .int x2, .int x3, .int x4, .int x5, .int x6, .null, .null, .null]) (st := []) (w := w) rfl h1).trans <|
    (runs_stps (q' := (13, [.ref 20, .int x1, .null, .null, .int x4, .null, .null, .null, .null, .null], [.int x1, .ref 20], w)) 2 rfl).trans <|
    (runs_callV (rv := some (.int r1)) (w' := w1) rfl rfl rfl rfl h2).trans <|
    (runs_stps (q' := (22, [.ref 20, .int x1, .null, .null, .int x4, .null, .null, .null, .null, .null], [.int 1, .int ((r1 >>> (x4 &&& 31)) &&& 1)], w1)) 5 rfl).trans <|
    (runs_if_f (a := 25) (b := 29) (L := [.ref 20, .int x1, .null, .null, .int x4, .null, .null, .null, .null, .null]) (st := []) (w := w1) rfl h3).trans <|
    (runs_stps (q' := (30, [.null, .null, .null, .null, .null, .null, .null, .null, .null, .null], [.int 0], w1)) 1 rfl).trans <|
    runs_ret rfl
  · exact (runs_stps (q' := (2, [.ref 27, .int x1, .int x2, .int x3, .int x4, .int x5, .int x6, .null, .null, .null], [.int x5], w)) 1 rfl).trans <|
    (runs_if_t (a := 11) (b := 5) (L := [.ref 27, .int x1, .int x2, .int x3, .int x4, .int x5, .int x6, .null, .null, .null]) (st := []) (w := w) rfl h1).trans <|
    (runs_stps (q' := (13, [.ref 27, .int x1, .null, .null, .int x4, .null, .null, .null, .null, .null], [.int x1, .ref 27], w)) 2 rfl).trans <|
    (runs_callV (rv := some (.int r1)) (w' := w1) rfl rfl rfl rfl h2).trans <|
    (runs_stps (q' := (22, [.ref 27, .int x1, .null, .null, .int x4, .null, .null, .null, .null, .null], [.int 1, .int ((r1 >>> (x4 &&& 31)) &&& 1)], w1)) 5 rfl).trans <|
    (runs_if_f (a := 25) (b := 29) (L := [.ref 27, .int x1, .null, .null, .int x4, .null, .null, .null, .null, .null]) (st := []) (w := w1) rfl h3).trans <|
    (runs_stps (q' := (30, [.null, .null, .null, .null, .null, .null, .null, .null, .null, .null], [.int 0], w1)) 1 rfl).trans <|
    runs_ret rfl
theorem p_X0_isWon_0TF_R {ex : Ex} {p : Nat} {x1 : Int32} {x2 : Int32} {x3 : Int32} {x4 : Int32} {x5 : Int32} {x6 : Int32} {r1 : Int32} {w1 : Wd} {w : Wd} (hp : scp p) (h1 : x5 ≤ 0) (h2 : ex 75 [.ref p, .int x1] w = some (some (.int r1), w1)) (h3 : ((r1 >>> (x4 &&& 31)) &&& 1) = 1) : runs (T_X0_isWon ex) (0, [.ref p, .int x1, .int x2, .int x3, .int x4, .int x5, .int x6, .null, .null, .null], [], w) = some (some (.int 1), w1) := by
  rcases hp with rfl | rfl
  · exact (runs_stps (q' := (2, [.ref 20, .int x1, .int x2, .int x3, .int x4, .int x5, .int x6, .null, .null, .null], [.int x5], w)) 1 rfl).trans <|
    (runs_if_t (a := 11) (b := 5) (L := [.ref 20, .int x1, .int x2, .int x3, .int x4, .int x5, .int x6, .null, .null, .null]) (st := []) (w := w) rfl h1).trans <|
    (runs_stps (q' := (13, [.ref 20, .int x1, .null, .null, .int x4, .null, .null, .null, .null, .null], [.int x1, .ref 20], w)) 2 rfl).trans <|
    (runs_callV (rv := some (.int r1)) (w' := w1) rfl rfl rfl rfl h2).trans <|
    (runs_stps (q' := (22, [.ref 20, .int x1, .null, .null, .int x4, .null, .null, .null, .null, .null], [.int 1, .int ((r1 >>> (x4 &&& 31)) &&& 1)], w1)) 5 rfl).trans <|
    (runs_if_t (a := 25) (b := 29) (L := [.ref 20, .int x1, .null, .null, .int x4, .null, .null, .null, .null, .null]) (st := []) (w := w1) rfl h3).trans <|
    (runs_stps (q' := (30, [.ref 20, .int x1, .null, .null, .int x4, .null, .null, .null, .null, .null], [.int 1], w1)) 2 rfl).trans <|
    runs_ret rfl
  · exact (runs_stps (q' := (2, [.ref 27, .int x1, .int x2, .int x3, .int x4, .int x5, .int x6, .null, .null, .null], [.int x5], w)) 1 rfl).trans <|
    (runs_if_t (a := 11) (b := 5) (L := [.ref 27, .int x1, .int x2, .int x3, .int x4, .int x5, .int x6, .null, .null, .null]) (st := []) (w := w) rfl h1).trans <|
    (runs_stps (q' := (13, [.ref 27, .int x1, .null, .null, .int x4, .null, .null, .null, .null, .null], [.int x1, .ref 27], w)) 2 rfl).trans <|
    (runs_callV (rv := some (.int r1)) (w' := w1) rfl rfl rfl rfl h2).trans <|
    (runs_stps (q' := (22, [.ref 27, .int x1, .null, .null, .int x4, .null, .null, .null, .null, .null], [.int 1, .int ((r1 >>> (x4 &&& 31)) &&& 1)], w1)) 5 rfl).trans <|
    (runs_if_t (a := 25) (b := 29) (L := [.ref 27, .int x1, .null, .null, .int x4, .null, .null, .null, .null, .null]) (st := []) (w := w1) rfl h3).trans <|
    (runs_stps (q' := (30, [.ref 27, .int x1, .null, .null, .int x4, .null, .null, .null, .null, .null], [.int 1], w1)) 2 rfl).trans <|
    runs_ret rfl
theorem p_X0_isWon_0FTT_L48 {ex : Ex} {p : Nat} {x1 : Int32} {x2 : Int32} {x3 : Int32} {x4 : Int32} {x5 : Int32} {x6 : Int32} {w : Wd} (hp : scp p) (h1 : ¬ x5 ≤ 0) (h2 : x5 ≤ 4) (h3 : x6 = 0) : runs (T_X0_isWon ex) (0, [.ref p, .int x1, .int x2, .int x3, .int x4, .int x5, .int x6, .null, .null, .null], [], w) = runs (T_X0_isWon ex) (48, [.ref p, .int x1, .int x2, .int x3, .int x4, .int x5, .int x6, .int (1 <<< (x3 &&& 31)), .int 0, .null], [], w) := by
  rcases hp with rfl | rfl
  · exact (runs_stps (q' := (2, [.ref 20, .int x1, .int x2, .int x3, .int x4, .int x5, .int x6, .null, .null, .null], [.int x5], w)) 1 rfl).trans <|
    (runs_if_f (a := 11) (b := 5) (L := [.ref 20, .int x1, .int x2, .int x3, .int x4, .int x5, .int x6, .null, .null, .null]) (st := []) (w := w) rfl h1).trans <|
    (runs_stps (q' := (8, [.ref 20, .int x1, .int x2, .int x3, .int x4, .int x5, .int x6, .null, .null, .null], [.int 4, .int x5], w)) 2 rfl).trans <|
    (runs_if_t (a := 31) (b := 11) (L := [.ref 20, .int x1, .int x2, .int x3, .int x4, .int x5, .int x6, .null, .null, .null]) (st := []) (w := w) rfl h2).trans <|
    (runs_stps (q' := (34, [.ref 20, .int x1, .int x2, .int x3, .int x4, .int x5, .int x6, .null, .null, .null], [.int x6, .int 1], w)) 2 rfl).trans <|
    (runs_if_t (a := 41) (b := 37) (L := [.ref 20, .int x1, .int x2, .int x3, .int x4, .int x5, .int x6, .null, .null, .null]) (st := [.int 1]) (w := w) rfl h3).trans <|
    (runs_stps (q' := (48, [.ref 20, .int x1, .int x2, .int x3, .int x4, .int x5, .int x6, .int (1 <<< (x3 &&& 31)), .int 0, .null], [], w)) 5 rfl).trans <|
    rfl
  · exact (runs_stps (q' := (2, [.ref 27, .int x1, .int x2, .int x3, .int x4, .int x5, .int x6, .null, .null, .null], [.int x5], w)) 1 rfl).trans <|
    (runs_if_f (a := 11) (b := 5) (L := [.ref 27, .int x1, .int x2, .int x3, .int x4, .int x5, .int x6, .null, .null, .null]) (st := []) (w := w) rfl h1).trans <|
    (runs_stps (q' := (8, [.ref 27, .int x1, .int x2, .int x3, .int x4, .int x5, .int x6, .null, .null, .null], [.int 4, .int x5], w)) 2 rfl).trans <|
    (runs_if_t (a := 31) (b := 11) (L := [.ref 27, .int x1, .int x2, .int x3, .int x4, .int x5, .int x6, .null, .null, .null]) (st := []) (w := w) rfl h2).trans <|
    (runs_stps (q' := (34, [.ref 27, .int x1, .int x2, .int x3, .int x4, .int x5, .int x6, .null, .null, .null], [.int x6, .int 1], w)) 2 rfl).trans <|
    (runs_if_t (a := 41) (b := 37) (L := [.ref 27, .int x1, .int x2, .int x3, .int x4, .int x5, .int x6, .null, .null, .null]) (st := [.int 1]) (w := w) rfl h3).trans <|
    (runs_stps (q' := (48, [.ref 27, .int x1, .int x2, .int x3, .int x4, .int x5, .int x6, .int (1 <<< (x3 &&& 31)), .int 0, .null], [], w)) 5 rfl).trans <|
    rfl
theorem p_X0_isWon_0FTF_L48 {ex : Ex} {p : Nat} {x1 : Int32} {x2 : Int32} {x3 : Int32} {x4 : Int32} {x5 : Int32} {x6 : Int32} {w : Wd} (hp : scp p) (h1 : ¬ x5 ≤ 0) (h2 : x5 ≤ 4) (h3 : ¬ x6 = 0) : runs (T_X0_isWon ex) (0, [.ref p, .int x1, .int x2, .int x3, .int x4, .int x5, .int x6, .null, .null, .null], [], w) = runs (T_X0_isWon ex) (48, [.ref p, .int x1, .int x2, .int x3, .int x4, .int x5, .int x6, .int (1 <<< (x2 &&& 31)), .int 0, .null], [], w) := by
  rcases hp with rfl | rfl
  · exact (runs_stps (q' := (2, [.ref 20, .int x1, .int x2, .int x3, .int x4, .int x5, .int x6, .null, .null, .null], [.int x5], w)) 1 rfl).trans <|
    (runs_if_f (a := 11) (b := 5) (L := [.ref 20, .int x1, .int x2, .int x3, .int x4, .int x5, .int x6, .null, .null, .null]) (st := []) (w := w) rfl h1).trans <|
    (runs_stps (q' := (8, [.ref 20, .int x1, .int x2, .int x3, .int x4, .int x5, .int x6, .null, .null, .null], [.int 4, .int x5], w)) 2 rfl).trans <|
    (runs_if_t (a := 31) (b := 11) (L := [.ref 20, .int x1, .int x2, .int x3, .int x4, .int x5, .int x6, .null, .null, .null]) (st := []) (w := w) rfl h2).trans <|
    (runs_stps (q' := (34, [.ref 20, .int x1, .int x2, .int x3, .int x4, .int x5, .int x6, .null, .null, .null], [.int x6, .int 1], w)) 2 rfl).trans <|
    (runs_if_f (a := 41) (b := 37) (L := [.ref 20, .int x1, .int x2, .int x3, .int x4, .int x5, .int x6, .null, .null, .null]) (st := [.int 1]) (w := w) rfl h3).trans <|
    (runs_stps (q' := (48, [.ref 20, .int x1, .int x2, .int x3, .int x4, .int x5, .int x6, .int (1 <<< (x2 &&& 31)), .int 0, .null], [], w)) 6 rfl).trans <|
    rfl
  · exact (runs_stps (q' := (2, [.ref 27, .int x1, .int x2, .int x3, .int x4, .int x5, .int x6, .null, .null, .null], [.int x5], w)) 1 rfl).trans <|
    (runs_if_f (a := 11) (b := 5) (L := [.ref 27, .int x1, .int x2, .int x3, .int x4, .int x5, .int x6, .null, .null, .null]) (st := []) (w := w) rfl h1).trans <|
    (runs_stps (q' := (8, [.ref 27, .int x1, .int x2, .int x3, .int x4, .int x5, .int x6, .null, .null, .null], [.int 4, .int x5], w)) 2 rfl).trans <|
    (runs_if_t (a := 31) (b := 11) (L := [.ref 27, .int x1, .int x2, .int x3, .int x4, .int x5, .int x6, .null, .null, .null]) (st := []) (w := w) rfl h2).trans <|
    (runs_stps (q' := (34, [.ref 27, .int x1, .int x2, .int x3, .int x4, .int x5, .int x6, .null, .null, .null], [.int x6, .int 1], w)) 2 rfl).trans <|
    (runs_if_f (a := 41) (b := 37) (L := [.ref 27, .int x1, .int x2, .int x3, .int x4, .int x5, .int x6, .null, .null, .null]) (st := [.int 1]) (w := w) rfl h3).trans <|
    (runs_stps (q' := (48, [.ref 27, .int x1, .int x2, .int x3, .int x4, .int x5, .int x6, .int (1 <<< (x2 &&& 31)), .int 0, .null], [], w)) 6 rfl).trans <|
    rfl
theorem p_X0_isWon_0FFT_R {ex : Ex} {p : Nat} {x1 : Int32} {x2 : Int32} {x3 : Int32} {x4 : Int32} {x5 : Int32} {x6 : Int32} {r1 : Int32} {w1 : Wd} {w : Wd} (hp : scp p) (h1 : ¬ x5 ≤ 0) (h2 : ¬ x5 ≤ 4) (h3 : ex 75 [.ref p, .int x1] w = some (some (.int r1), w1)) (h4 : ¬ ((r1 >>> (x4 &&& 31)) &&& 1) = 1) : runs (T_X0_isWon ex) (0, [.ref p, .int x1, .int x2, .int x3, .int x4, .int x5, .int x6, .null, .null, .null], [], w) = some (some (.int 0), w1) := by
  rcases hp with rfl | rfl
  · exact (runs_stps (q' := (2, [.ref 20, .int x1, .int x2, .int x3, .int x4, .int x5, .int x6, .null, .null, .null], [.int x5], w)) 1 rfl).trans <|
    (runs_if_f (a := 11) (b := 5) (L := [.ref 20, .int x1, .int x2, .int x3, .int x4, .int x5, .int x6, .null, .null, .null]) (st := []) (w := w) rfl h1).trans <|
    (runs_stps (q' := (8, [.ref 20, .int x1, .int x2, .int x3, .int x4, .int x5, .int x6, .null, .null, .null], [.int 4, .int x5], w)) 2 rfl).trans <|
    (runs_if_f (a := 31) (b := 11) (L := [.ref 20, .int x1, .int x2, .int x3, .int x4, .int x5, .int x6, .null, .null, .null]) (st := []) (w := w) rfl h2).trans <|
    (runs_stps (q' := (13, [.ref 20, .int x1, .null, .null, .int x4, .null, .null, .null, .null, .null], [.int x1, .ref 20], w)) 2 rfl).trans <|
    (runs_callV (rv := some (.int r1)) (w' := w1) rfl rfl rfl rfl h3).trans <|
    (runs_stps (q' := (22, [.ref 20, .int x1, .null, .null, .int x4, .null, .null, .null, .null, .null], [.int 1, .int ((r1 >>> (x4 &&& 31)) &&& 1)], w1)) 5 rfl).trans <|
    (runs_if_f (a := 25) (b := 29) (L := [.ref 20, .int x1, .null, .null, .int x4, .null, .null, .null, .null, .null]) (st := []) (w := w1) rfl h4).trans <|
    (runs_stps (q' := (30, [.null, .null, .null, .null, .null, .null, .null, .null, .null, .null], [.int 0], w1)) 1 rfl).trans <|
    runs_ret rfl
  · exact (runs_stps (q' := (2, [.ref 27, .int x1, .int x2, .int x3, .int x4, .int x5, .int x6, .null, .null, .null], [.int x5], w)) 1 rfl).trans <|
    (runs_if_f (a := 11) (b := 5) (L := [.ref 27, .int x1, .int x2, .int x3, .int x4, .int x5, .int x6, .null, .null, .null]) (st := []) (w := w) rfl h1).trans <|
    (runs_stps (q' := (8, [.ref 27, .int x1, .int x2, .int x3, .int x4, .int x5, .int x6, .null, .null, .null], [.int 4, .int x5], w)) 2 rfl).trans <|
    (runs_if_f (a := 31) (b := 11) (L := [.ref 27, .int x1, .int x2, .int x3, .int x4, .int x5, .int x6, .null, .null, .null]) (st := []) (w := w) rfl h2).trans <|
    (runs_stps (q' := (13, [.ref 27, .int x1, .null, .null, .int x4, .null, .null, .null, .null, .null], [.int x1, .ref 27], w)) 2 rfl).trans <|
    (runs_callV (rv := some (.int r1)) (w' := w1) rfl rfl rfl rfl h3).trans <|
    (runs_stps (q' := (22, [.ref 27, .int x1, .null, .null, .int x4, .null, .null, .null, .null, .null], [.int 1, .int ((r1 >>> (x4 &&& 31)) &&& 1)], w1)) 5 rfl).trans <|
    (runs_if_f (a := 25) (b := 29) (L := [.ref 27, .int x1, .null, .null, .int x4, .null, .null, .null, .null, .null]) (st := []) (w := w1) rfl h4).trans <|
    (runs_stps (q' := (30, [.null, .null, .null, .null, .null, .null, .null, .null, .null, .null], [.int 0], w1)) 1 rfl).trans <|
    runs_ret rfl
theorem p_X0_isWon_0FFF_R {ex : Ex} {p : Nat} {x1 : Int32} {x2 : Int32} {x3 : Int32} {x4 : Int32} {x5 : Int32} {x6 : Int32} {r1 : Int32} {w1 : Wd} {w : Wd} (hp : scp p) (h1 : ¬ x5 ≤ 0) (h2 : ¬ x5 ≤ 4) (h3 : ex 75 [.ref p, .int x1] w = some (some (.int r1), w1)) (h4 : ((r1 >>> (x4 &&& 31)) &&& 1) = 1) : runs (T_X0_isWon ex) (0, [.ref p, .int x1, .int x2, .int x3, .int x4, .int x5, .int x6, .null, .null, .null], [], w) = some (some (.int 1), w1) := by
  rcases hp with rfl | rfl
  · exact (runs_stps (q' := (2, [.ref 20, .int x1, .int x2, .int x3, .int x4, .int x5, .int x6, .null, .null, .null], [.int x5], w)) 1 rfl).trans <|
    (runs_if_f (a := 11) (b := 5) (L := [.ref 20, .int x1, .int x2, .int x3, .int x4, .int x5, .int x6, .null, .null, .null]) (st := []) (w := w) rfl h1).trans <|
    (runs_stps (q' := (8, [.ref 20, .int x1, .int x2, .int x3, .int x4, .int x5, .int x6, .null, .null, .null], [.int 4, .int x5], w)) 2 rfl).trans <|
    (runs_if_f (a := 31) (b := 11) (L := [.ref 20, .int x1, .int x2, .int x3, .int x4, .int x5, .int x6, .null, .null, .null]) (st := []) (w := w) rfl h2).trans <|
    (runs_stps (q' := (13, [.ref 20, .int x1, .null, .null, .int x4, .null, .null, .null, .null, .null], [.int x1, .ref 20], w)) 2 rfl).trans <|
    (runs_callV (rv := some (.int r1)) (w' := w1) rfl rfl rfl rfl h3).trans <|
    (runs_stps (q' := (22, [.ref 20, .int x1, .null, .null, .int x4, .null, .null, .null, .null, .null], [.int 1, .int ((r1 >>> (x4 &&& 31)) &&& 1)], w1)) 5 rfl).trans <|
    (runs_if_t (a := 25) (b := 29) (L := [.ref 20, .int x1, .null, .null, .int x4, .null, .null, .null, .null, .null]) (st := []) (w := w1) rfl h4).trans <|
    (runs_stps (q' := (30, [.ref 20, .int x1, .null, .null, .int x4, .null, .null, .null, .null, .null], [.int 1], w1)) 2 rfl).trans <|
    runs_ret rfl
  · exact (runs_stps (q' := (2, [.ref 27, .int x1, .int x2, .int x3, .int x4, .int x5, .int x6, .null, .null, .null], [.int x5], w)) 1 rfl).trans <|
    (runs_if_f (a := 11) (b := 5) (L := [.ref 27, .int x1, .int x2, .int x3, .int x4, .int x5, .int x6, .null, .null, .null]) (st := []) (w := w) rfl h1).trans <|
    (runs_stps (q' := (8, [.ref 27, .int x1, .int x2, .int x3, .int x4, .int x5, .int x6, .null, .null, .null], [.int 4, .int x5], w)) 2 rfl).trans <|
    (runs_if_f (a := 31) (b := 11) (L := [.ref 27, .int x1, .int x2, .int x3, .int x4, .int x5, .int x6, .null, .null, .null]) (st := []) (w := w) rfl h2).trans <|
    (runs_stps (q' := (13, [.ref 27, .int x1, .null, .null, .int x4, .null, .null, .null, .null, .null], [.int x1, .ref 27], w)) 2 rfl).trans <|
    (runs_callV (rv := some (.int r1)) (w' := w1) rfl rfl rfl rfl h3).trans <|
    (runs_stps (q' := (22, [.ref 27, .int x1, .null, .null, .int x4, .null, .null, .null, .null, .null], [.int 1, .int ((r1 >>> (x4 &&& 31)) &&& 1)], w1)) 5 rfl).trans <|
    (runs_if_t (a := 25) (b := 29) (L := [.ref 27, .int x1, .null, .null, .int x4, .null, .null, .null, .null, .null]) (st := []) (w := w1) rfl h4).trans <|
    (runs_stps (q' := (30, [.ref 27, .int x1, .null, .null, .int x4, .null, .null, .null, .null, .null], [.int 1], w1)) 2 rfl).trans <|
    runs_ret rfl
theorem p_X0_isWon_48TT_R {ex : Ex} {p : Nat} {x1 : Int32} {x2 : Int32} {x3 : Int32} {x4 : Int32} {x5 : Int32} {x6 : Int32} {x7 : Int32} {x8 : Int32} {v9 : Value} {w : Wd} (hp : scp p) (h1 : 7 < x8) (h2 : ¬ x6 = 0) : runs (T_X0_isWon ex) (48, [.ref p, .int x1, .int x2, .int x3, .int x4, .int x5, .int x6, .int x7, .int x8, v9], [], w) = some (some (.int 0), w) := by
  rcases hp with rfl | rfl
  · exact (runs_stps (q' := (52, [.ref 20, .int x1, .int x2, .int x3, .int x4, .int x5, .int x6, .int x7, .int x8, .null], [.int 7, .int x8], w)) 2 rfl).trans <|
    (runs_if_t (a := 109) (b := 55) (L := [.ref 20, .int x1, .int x2, .int x3, .int x4, .int x5, .int x6, .int x7, .int x8, .null]) (st := []) (w := w) rfl h1).trans <|
    (runs_stps (q' := (111, [.null, .null, .null, .null, .null, .null, .int x6, .null, .null, .null], [.int x6], w)) 1 rfl).trans <|
    (runs_if_f (a := 114) (b := 118) (L := [.null, .null, .null, .null, .null, .null, .int x6, .null, .null, .null]) (st := []) (w := w) rfl h2).trans <|
    (runs_stps (q' := (119, [.null, .null, .null, .null, .null, .null, .null, .null, .null, .null], [.int 0], w)) 1 rfl).trans <|
    runs_ret rfl
  · exact (runs_stps (q' := (52, [.ref 27, .int x1, .int x2, .int x3, .int x4, .int x5, .int x6, .int x7, .int x8, .null], [.int 7, .int x8], w)) 2 rfl).trans <|
    (runs_if_t (a := 109) (b := 55) (L := [.ref 27, .int x1, .int x2, .int x3, .int x4, .int x5, .int x6, .int x7, .int x8, .null]) (st := []) (w := w) rfl h1).trans <|
    (runs_stps (q' := (111, [.null, .null, .null, .null, .null, .null, .int x6, .null, .null, .null], [.int x6], w)) 1 rfl).trans <|
    (runs_if_f (a := 114) (b := 118) (L := [.null, .null, .null, .null, .null, .null, .int x6, .null, .null, .null]) (st := []) (w := w) rfl h2).trans <|
    (runs_stps (q' := (119, [.null, .null, .null, .null, .null, .null, .null, .null, .null, .null], [.int 0], w)) 1 rfl).trans <|
    runs_ret rfl
theorem p_X0_isWon_48TF_R {ex : Ex} {p : Nat} {x1 : Int32} {x2 : Int32} {x3 : Int32} {x4 : Int32} {x5 : Int32} {x6 : Int32} {x7 : Int32} {x8 : Int32} {v9 : Value} {w : Wd} (hp : scp p) (h1 : 7 < x8) (h2 : x6 = 0) : runs (T_X0_isWon ex) (48, [.ref p, .int x1, .int x2, .int x3, .int x4, .int x5, .int x6, .int x7, .int x8, v9], [], w) = some (some (.int 1), w) := by
  rcases hp with rfl | rfl
  · exact (runs_stps (q' := (52, [.ref 20, .int x1, .int x2, .int x3, .int x4, .int x5, .int x6, .int x7, .int x8, .null], [.int 7, .int x8], w)) 2 rfl).trans <|
    (runs_if_t (a := 109) (b := 55) (L := [.ref 20, .int x1, .int x2, .int x3, .int x4, .int x5, .int x6, .int x7, .int x8, .null]) (st := []) (w := w) rfl h1).trans <|
    (runs_stps (q' := (111, [.null, .null, .null, .null, .null, .null, .int x6, .null, .null, .null], [.int x6], w)) 1 rfl).trans <|
    (runs_if_t (a := 114) (b := 118) (L := [.null, .null, .null, .null, .null, .null, .int x6, .null, .null, .null]) (st := []) (w := w) rfl h2).trans <|
    (runs_stps (q' := (119, [.null, .null, .null, .null, .null, .null, .int x6, .null, .null, .null], [.int 1], w)) 2 rfl).trans <|
    runs_ret rfl
  · exact (runs_stps (q' := (52, [.ref 27, .int x1, .int x2, .int x3, .int x4, .int x5, .int x6, .int x7, .int x8, .null], [.int 7, .int x8], w)) 2 rfl).trans <|
    (runs_if_t (a := 109) (b := 55) (L := [.ref 27, .int x1, .int x2, .int x3, .int x4, .int x5, .int x6, .int x7, .int x8, .null]) (st := []) (w := w) rfl h1).trans <|
    (runs_stps (q' := (111, [.null, .null, .null, .null, .null, .null, .int x6, .null, .null, .null], [.int x6], w)) 1 rfl).trans <|
    (runs_if_t (a := 114) (b := 118) (L := [.null, .null, .null, .null, .null, .null, .int x6, .null, .null, .null]) (st := []) (w := w) rfl h2).trans <|
    (runs_stps (q' := (119, [.null, .null, .null, .null, .null, .null, .int x6, .null, .null, .null], [.int 1], w)) 2 rfl).trans <|
    runs_ret rfl
theorem p_X0_isWon_48FT_L48 {ex : Ex} {p : Nat} {x1 : Int32} {x2 : Int32} {x3 : Int32} {x4 : Int32} {x5 : Int32} {x6 : Int32} {x7 : Int32} {x8 : Int32} {v9 : Value} {r1 : Int32} {w1 : Wd} {w : Wd} (hp : scp p) (h1 : ¬ 7 < x8) (h2 : ex 76 [.ref p, .int x1, .int x7, .int x8] w = some (some (.int r1), w1)) (h3 : r1 < 0) : runs (T_X0_isWon ex) (48, [.ref p, .int x1, .int x2, .int x3, .int x4, .int x5, .int x6, .int x7, .int x8, v9], [], w) = runs (T_X0_isWon ex) (48, [.ref p, .int x1, .int x2, .int x3, .int x4, .int x5, .int x6, .int x7, .int (x8 + 1), .null], [], w1) := by
  rcases hp with rfl | rfl
  · exact (runs_stps (q' := (52, [.ref 20, .int x1, .int x2, .int x3, .int x4, .int x5, .int x6, .int x7, .int x8, .null], [.int 7, .int x8], w)) 2 rfl).trans <|
    (runs_if_f (a := 109) (b := 55) (L := [.ref 20, .int x1, .int x2, .int x3, .int x4, .int x5, .int x6, .int x7, .int x8, .null]) (st := []) (w := w) rfl h1).trans <|
    (runs_stps (q' := (61, [.ref 20, .int x1, .int x2, .int x3, .int x4, .int x5, .int x6, .int x7, .int x8, .null], [.int x8, .int x7, .int x1, .ref 20], w)) 4 rfl).trans <|
    (runs_callV (rv := some (.int r1)) (w' := w1) rfl rfl rfl rfl h2).trans <|
    (runs_stps (q' := (68, [.ref 20, .int x1, .int x2, .int x3, .int x4, .int x5, .int x6, .int x7, .int x8, .int r1], [.int r1], w1)) 2 rfl).trans <|
    (runs_if_t (a := 103) (b := 71) (L := [.ref 20, .int x1, .int x2, .int x3, .int x4, .int x5, .int x6, .int x7, .int x8, .int r1]) (st := []) (w := w1) rfl h3).trans <|
    (runs_stps (q' := (48, [.ref 20, .int x1, .int x2, .int x3, .int x4, .int x5, .int x6, .int x7, .int (x8 + 1), .null], [], w1)) 2 rfl).trans <|
    rfl
  · exact (runs_stps (q' := (52, [.ref 27, .int x1, .int x2, .int x3, .int x4, .int x5, .int x6, .int x7, .int x8, .null], [.int 7, .int x8], w)) 2 rfl).trans <|
    (runs_if_f (a := 109) (b := 55) (L := [.ref 27, .int x1, .int x2, .int x3, .int x4, .int x5, .int x6, .int x7, .int x8, .null]) (st := []) (w := w) rfl h1).trans <|
    (runs_stps (q' := (61, [.ref 27, .int x1, .int x2, .int x3, .int x4, .int x5, .int x6, .int x7, .int x8, .null], [.int x8, .int x7, .int x1, .ref 27], w)) 4 rfl).trans <|
    (runs_callV (rv := some (.int r1)) (w' := w1) rfl rfl rfl rfl h2).trans <|
    (runs_stps (q' := (68, [.ref 27, .int x1, .int x2, .int x3, .int x4, .int x5, .int x6, .int x7, .int x8, .int r1], [.int r1], w1)) 2 rfl).trans <|
    (runs_if_t (a := 103) (b := 71) (L := [.ref 27, .int x1, .int x2, .int x3, .int x4, .int x5, .int x6, .int x7, .int x8, .int r1]) (st := []) (w := w1) rfl h3).trans <|
    (runs_stps (q' := (48, [.ref 27, .int x1, .int x2, .int x3, .int x4, .int x5, .int x6, .int x7, .int (x8 + 1), .null], [], w1)) 2 rfl).trans <|
    rfl
theorem p_X0_isWon_48FFTT_L48 {ex : Ex} {p : Nat} {x1 : Int32} {x2 : Int32} {x3 : Int32} {x4 : Int32} {x5 : Int32} {x6 : Int32} {x7 : Int32} {x8 : Int32} {v9 : Value} {r1 : Int32} {w1 : Wd} {r2 : Int32} {w2 : Wd} {w : Wd} (hp : scp p) (h1 : ¬ 7 < x8) (h2 : ex 76 [.ref p, .int x1, .int x7, .int x8] w = some (some (.int r1), w1)) (h3 : ¬ r1 < 0) (h4 : ¬ x6 = 0) (h5 : ex 0 [.ref p, .int r1, .int x2, .int x3, .int x4, .int (x5 - 1), .int 0] w1 = some (some (.int r2), w2)) (h6 : ¬ r2 = x6) : runs (T_X0_isWon ex) (48, [.ref p, .int x1, .int x2, .int x3, .int x4, .int x5, .int x6, .int x7, .int x8, v9], [], w) = runs (T_X0_isWon ex) (48, [.ref p, .int x1, .int x2, .int x3, .int x4, .int x5, .int x6, .int x7, .int (x8 + 1), .null], [], w2) := by
  rcases hp with rfl | rfl
  · exact (runs_stps (q' := (52, [.ref 20, .int x1, .int x2, .int x3, .int x4, .int x5, .int x6, .int x7, .int x8, .null], [.int 7, .int x8], w)) 2 rfl).trans <|
    (runs_if_f (a := 109) (b := 55) (L := [.ref 20, .int x1, .int x2, .int x3, .int x4, .int x5, .int x6, .int x7, .int x8, .null]) (st := []) (w := w) rfl h1).trans <|
    (runs_stps (q' := (61, [.ref 20, .int x1, .int x2, .int x3, .int x4, .int x5, .int x6, .int x7, .int x8, .null], [.int x8, .int x7, .int x1, .ref 20], w)) 4 rfl).trans <|
    (runs_callV (rv := some (.int r1)) (w' := w1) rfl rfl rfl rfl h2).trans <|
    (runs_stps (q' := (68, [.ref 20, .int x1, .int x2, .int x3, .int x4, .int x5, .int x6, .int x7, .int x8, .int r1], [.int r1], w1)) 2 rfl).trans <|
    (runs_if_f (a := 103) (b := 71) (L := [.ref 20, .int x1, .int x2, .int x3, .int x4, .int x5, .int x6, .int x7, .int x8, .int r1]) (st := []) (w := w1) rfl h3).trans <|
    (runs_stps (q' := (84, [.ref 20, .int x1, .int x2, .int x3, .int x4, .int x5, .int x6, .int x7, .int x8, .int r1], [.int x6, .int (x5 - 1), .int x4, .int x3, .int x2, .int r1, .ref 20], w1)) 9 rfl).trans <|
    (runs_if_f (a := 87) (b := 91) (L := [.ref 20, .int x1, .int x2, .int x3, .int x4, .int x5, .int x6, .int x7, .int x8, .int r1]) (st := [.int (x5 - 1), .int x4, .int x3, .int x2, .int r1, .ref 20]) (w := w1) rfl h4).trans <|
    (runs_stps (q' := (92, [.ref 20, .int x1, .int x2, .int x3, .int x4, .int x5, .int x6, .int x7, .int x8, .null], [.int 0, .int (x5 - 1), .int x4, .int x3, .int x2, .int r1, .ref 20], w1)) 1 rfl).trans <|
    (runs_callSf (rv := some (.int r2)) (w' := w2) rfl rfl rfl h5).trans <|
    (runs_stps (q' := (97, [.ref 20, .int x1, .int x2, .int x3, .int x4, .int x5, .int x6, .int x7, .int x8, .null], [.int x6, .int r2], w2)) 1 rfl).trans <|
    (runs_if_f (a := 100) (b := 103) (L := [.ref 20, .int x1, .int x2, .int x3, .int x4, .int x5, .int x6, .int x7, .int x8, .null]) (st := []) (w := w2) rfl h6).trans <|
    (runs_stps (q' := (48, [.ref 20, .int x1, .int x2, .int x3, .int x4, .int x5, .int x6, .int x7, .int (x8 + 1), .null], [], w2)) 2 rfl).trans <|
    rfl
  · exact (runs_stps (q' := (52, [.ref 27, .int x1, .int x2, .int x3, .int x4, .int x5, .int x6, .int x7, .int x8, .null], [.int 7, .int x8], w)) 2 rfl).trans <|
    (runs_if_f (a := 109) (b := 55) (L := [.ref 27, .int x1, .int x2, .int x3, .int x4, .int x5, .int x6, .int x7, .int x8, .null]) (st := []) (w := w) rfl h1).trans <|
    (runs_stps (q' := (61, [.ref 27, .int x1, .int x2, .int x3, .int x4, .int x5, .int x6, .int x7, .int x8, .null], [.int x8, .int x7, .int x1, .ref 27], w)) 4 rfl).trans <|
    (runs_callV (rv := some (.int r1)) (w' := w1) rfl rfl rfl rfl h2).trans <|
    (runs_stps (q' := (68, [.ref 27, .int x1, .int x2, .int x3, .int x4, .int x5, .int x6, .int x7, .int x8, .int r1], [.int r1], w1)) 2 rfl).trans <|
    (runs_if_f (a := 103) (b := 71) (L := [.ref 27, .int x1, .int x2, .int x3, .int x4, .int x5, .int x6, .int x7, .int x8, .int r1]) (st := []) (w := w1) rfl h3).trans <|
    (runs_stps (q' := (84, [.ref 27, .int x1, .int x2, .int x3, .int x4, .int x5, .int x6, .int x7, .int x8, .int r1], [.int x6, .int (x5 - 1), .int x4, .int x3, .int x2, .int r1, .ref 27], w1)) 9 rfl).trans <|
    (runs_if_f (a := 87) (b := 91) (L := [.ref 27, .int x1, .int x2, .int x3, .int x4, .int x5, .int x6, .int x7, .int x8, .int r1]) (st := [.int (x5 - 1), .int x4, .int x3, .int x2, .int r1, .ref 27]) (w := w1) rfl h4).trans <|
    (runs_stps (q' := (92, [.ref 27, .int x1, .int x2, .int x3, .int x4, .int x5, .int x6, .int x7, .int x8, .null], [.int 0, .int (x5 - 1), .int x4, .int x3, .int x2, .int r1, .ref 27], w1)) 1 rfl).trans <|
    (runs_callSf (rv := some (.int r2)) (w' := w2) rfl rfl rfl h5).trans <|
    (runs_stps (q' := (97, [.ref 27, .int x1, .int x2, .int x3, .int x4, .int x5, .int x6, .int x7, .int x8, .null], [.int x6, .int r2], w2)) 1 rfl).trans <|
    (runs_if_f (a := 100) (b := 103) (L := [.ref 27, .int x1, .int x2, .int x3, .int x4, .int x5, .int x6, .int x7, .int x8, .null]) (st := []) (w := w2) rfl h6).trans <|
    (runs_stps (q' := (48, [.ref 27, .int x1, .int x2, .int x3, .int x4, .int x5, .int x6, .int x7, .int (x8 + 1), .null], [], w2)) 2 rfl).trans <|
    rfl
theorem p_X0_isWon_48FFTF_R {ex : Ex} {p : Nat} {x1 : Int32} {x2 : Int32} {x3 : Int32} {x4 : Int32} {x5 : Int32} {x6 : Int32} {x7 : Int32} {x8 : Int32} {v9 : Value} {r1 : Int32} {w1 : Wd} {r2 : Int32} {w2 : Wd} {w : Wd} (hp : scp p) (h1 : ¬ 7 < x8) (h2 : ex 76 [.ref p, .int x1, .int x7, .int x8] w = some (some (.int r1), w1)) (h3 : ¬ r1 < 0) (h4 : ¬ x6 = 0) (h5 : ex 0 [.ref p, .int r1, .int x2, .int x3, .int x4, .int (x5 - 1), .int 0] w1 = some (some (.int r2), w2)) (h6 : r2 = x6) (h7 : x6 = 0 ∨ x6 = 1) : runs (T_X0_isWon ex) (48, [.ref p, .int x1, .int x2, .int x3, .int x4, .int x5, .int x6, .int x7, .int x8, v9], [], w) = some (some (.int x6), w2) := by
  rcases hp with rfl | rfl
  · exact (runs_stps (q' := (52, [.ref 20, .int x1, .int x2, .int x3, .int x4, .int x5, .int x6, .int x7, .int x8, .null], [.int 7, .int x8], w)) 2 rfl).trans <|
    (runs_if_f (a := 109) (b := 55) (L := [.ref 20, .int x1, .int x2, .int x3, .int x4, .int x5, .int x6, .int x7, .int x8, .null]) (st := []) (w := w) rfl h1).trans <|
    (runs_stps (q' := (61, [.ref 20, .int x1, .int x2, .int x3, .int x4, .int x5, .int x6, .int x7, .int x8, .null], [.int x8, .int x7, .int x1, .ref 20], w)) 4 rfl).trans <|
    (runs_callV (rv := some (.int r1)) (w' := w1) rfl rfl rfl rfl h2).trans <|
    (runs_stps (q' := (68, [.ref 20, .int x1, .int x2, .int x3, .int x4, .int x5, .int x6, .int x7, .int x8, .int r1], [.int r1], w1)) 2 rfl).trans <|
    (runs_if_f (a := 103) (b := 71) (L := [.ref 20, .int x1, .int x2, .int x3, .int x4, .int x5, .int x6, .int x7, .int x8, .int r1]) (st := []) (w := w1) rfl h3).trans <|
    (runs_stps (q' := (84, [.ref 20, .int x1, .int x2, .int x3, .int x4, .int x5, .int x6, .int x7, .int x8, .int r1], [.int x6, .int (x5 - 1), .int x4, .int x3, .int x2, .int r1, .ref 20], w1)) 9 rfl).trans <|
    (runs_if_f (a := 87) (b := 91) (L := [.ref 20, .int x1, .int x2, .int x3, .int x4, .int x5, .int x6, .int x7, .int x8, .int r1]) (st := [.int (x5 - 1), .int x4, .int x3, .int x2, .int r1, .ref 20]) (w := w1) rfl h4).trans <|
    (runs_stps (q' := (92, [.ref 20, .int x1, .int x2, .int x3, .int x4, .int x5, .int x6, .int x7, .int x8, .null], [.int 0, .int (x5 - 1), .int x4, .int x3, .int x2, .int r1, .ref 20], w1)) 1 rfl).trans <|
    (runs_callSf (rv := some (.int r2)) (w' := w2) rfl rfl rfl h5).trans <|
    (runs_stps (q' := (97, [.ref 20, .int x1, .int x2, .int x3, .int x4, .int x5, .int x6, .int x7, .int x8, .null], [.int x6, .int r2], w2)) 1 rfl).trans <|
    (runs_if_t (a := 100) (b := 103) (L := [.ref 20, .int x1, .int x2, .int x3, .int x4, .int x5, .int x6, .int x7, .int x8, .null]) (st := []) (w := w2) rfl h6).trans <|
    (runs_stps (q' := (102, [.ref 20, .int x1, .int x2, .int x3, .int x4, .int x5, .int x6, .int x7, .int x8, .null], [.int x6], w2)) 1 rfl).trans <|
    runs_rck rfl h7
  · exact (runs_stps (q' := (52, [.ref 27, .int x1, .int x2, .int x3, .int x4, .int x5, .int x6, .int x7, .int x8, .null], [.int 7, .int x8], w)) 2 rfl).trans <|
    (runs_if_f (a := 109) (b := 55) (L := [.ref 27, .int x1, .int x2, .int x3, .int x4, .int x5, .int x6, .int x7, .int x8, .null]) (st := []) (w := w) rfl h1).trans <|
    (runs_stps (q' := (61, [.ref 27, .int x1, .int x2, .int x3, .int x4, .int x5, .int x6, .int x7, .int x8, .null], [.int x8, .int x7, .int x1, .ref 27], w)) 4 rfl).trans <|
    (runs_callV (rv := some (.int r1)) (w' := w1) rfl rfl rfl rfl h2).trans <|
    (runs_stps (q' := (68, [.ref 27, .int x1, .int x2, .int x3, .int x4, .int x5, .int x6, .int x7, .int x8, .int r1], [.int r1], w1)) 2 rfl).trans <|
    (runs_if_f (a := 103) (b := 71) (L := [.ref 27, .int x1, .int x2, .int x3, .int x4, .int x5, .int x6, .int x7, .int x8, .int r1]) (st := []) (w := w1) rfl h3).trans <|
    (runs_stps (q' := (84, [.ref 27, .int x1, .int x2, .int x3, .int x4, .int x5, .int x6, .int x7, .int x8, .int r1], [.int x6, .int (x5 - 1), .int x4, .int x3, .int x2, .int r1, .ref 27], w1)) 9 rfl).trans <|
    (runs_if_f (a := 87) (b := 91) (L := [.ref 27, .int x1, .int x2, .int x3, .int x4, .int x5, .int x6, .int x7, .int x8, .int r1]) (st := [.int (x5 - 1), .int x4, .int x3, .int x2, .int r1, .ref 27]) (w := w1) rfl h4).trans <|
    (runs_stps (q' := (92, [.ref 27, .int x1, .int x2, .int x3, .int x4, .int x5, .int x6, .int x7, .int x8, .null], [.int 0, .int (x5 - 1), .int x4, .int x3, .int x2, .int r1, .ref 27], w1)) 1 rfl).trans <|
    (runs_callSf (rv := some (.int r2)) (w' := w2) rfl rfl rfl h5).trans <|
    (runs_stps (q' := (97, [.ref 27, .int x1, .int x2, .int x3, .int x4, .int x5, .int x6, .int x7, .int x8, .null], [.int x6, .int r2], w2)) 1 rfl).trans <|
    (runs_if_t (a := 100) (b := 103) (L := [.ref 27, .int x1, .int x2, .int x3, .int x4, .int x5, .int x6, .int x7, .int x8, .null]) (st := []) (w := w2) rfl h6).trans <|
    (runs_stps (q' := (102, [.ref 27, .int x1, .int x2, .int x3, .int x4, .int x5, .int x6, .int x7, .int x8, .null], [.int x6], w2)) 1 rfl).trans <|
    runs_rck rfl h7
theorem p_X0_isWon_48FFFT_L48 {ex : Ex} {p : Nat} {x1 : Int32} {x2 : Int32} {x3 : Int32} {x4 : Int32} {x5 : Int32} {x6 : Int32} {x7 : Int32} {x8 : Int32} {v9 : Value} {r1 : Int32} {w1 : Wd} {r2 : Int32} {w2 : Wd} {w : Wd} (hp : scp p) (h1 : ¬ 7 < x8) (h2 : ex 76 [.ref p, .int x1, .int x7, .int x8] w = some (some (.int r1), w1)) (h3 : ¬ r1 < 0) (h4 : x6 = 0) (h5 : ex 0 [.ref p, .int r1, .int x2, .int x3, .int x4, .int (x5 - 1), .int 1] w1 = some (some (.int r2), w2)) (h6 : ¬ r2 = x6) : runs (T_X0_isWon ex) (48, [.ref p, .int x1, .int x2, .int x3, .int x4, .int x5, .int x6, .int x7, .int x8, v9], [], w) = runs (T_X0_isWon ex) (48, [.ref p, .int x1, .int x2, .int x3, .int x4, .int x5, .int x6, .int x7, .int (x8 + 1), .null], [], w2) := by
  rcases hp with rfl | rfl
  · exact (runs_stps (q' := (52, [.ref 20, .int x1, .int x2, .int x3, .int x4, .int x5, .int x6, .int x7, .int x8, .null], [.int 7, .int x8], w)) 2 rfl).trans <|
    (runs_if_f (a := 109) (b := 55) (L := [.ref 20, .int x1, .int x2, .int x3, .int x4, .int x5, .int x6, .int x7, .int x8, .null]) (st := []) (w := w) rfl h1).trans <|
    (runs_stps (q' := (61, [.ref 20, .int x1, .int x2, .int x3, .int x4, .int x5, .int x6, .int x7, .int x8, .null], [.int x8, .int x7, .int x1, .ref 20], w)) 4 rfl).trans <|
    (runs_callV (rv := some (.int r1)) (w' := w1) rfl rfl rfl rfl h2).trans <|
    (runs_stps (q' := (68, [.ref 20, .int x1, .int x2, .int x3, .int x4, .int x5, .int x6, .int x7, .int x8, .int r1], [.int r1], w1)) 2 rfl).trans <|
    (runs_if_f (a := 103) (b := 71) (L := [.ref 20, .int x1, .int x2, .int x3, .int x4, .int x5, .int x6, .int x7, .int x8, .int r1]) (st := []) (w := w1) rfl h3).trans <|
    (runs_stps (q' := (84, [.ref 20, .int x1, .int x2, .int x3, .int x4, .int x5, .int x6, .int x7, .int x8, .int r1], [.int x6, .int (x5 - 1), .int x4, .int x3, .int x2, .int r1, .ref 20], w1)) 9 rfl).trans <|
    (runs_if_t (a := 87) (b := 91) (L := [.ref 20, .int x1, .int x2, .int x3, .int x4, .int x5, .int x6, .int x7, .int x8, .int r1]) (st := [.int (x5 - 1), .int x4, .int x3, .int x2, .int r1, .ref 20]) (w := w1) rfl h4).trans <|
    (runs_stps (q' := (92, [.ref 20, .int x1, .int x2, .int x3, .int x4, .int x5, .int x6, .int x7, .int x8, .int r1], [.int 1, .int (x5 - 1), .int x4, .int x3, .int x2, .int r1, .ref 20], w1)) 2 rfl).trans <|
    (runs_callSf (rv := some (.int r2)) (w' := w2) rfl rfl rfl h5).trans <|
    (runs_stps (q' := (97, [.ref 20, .int x1, .int x2, .int x3, .int x4, .int x5, .int x6, .int x7, .int x8, .null], [.int x6, .int r2], w2)) 1 rfl).trans <|
    (runs_if_f (a := 100) (b := 103) (L := [.ref 20, .int x1, .int x2, .int x3, .int x4, .int x5, .int x6, .int x7, .int x8, .null]) (st := []) (w := w2) rfl h6).trans <|
    (runs_stps (q' := (48, [.ref 20, .int x1, .int x2, .int x3, .int x4, .int x5, .int x6, .int x7, .int (x8 + 1), .null], [], w2)) 2 rfl).trans <|
    rfl
  · exact (runs_stps (q' := (52, [.ref 27, .int x1, .int x2, .int x3, .int x4, .int x5, .int x6, .int x7, .int x8, .null], [.int 7, .int x8], w)) 2 rfl).trans <|
    (runs_if_f (a := 109) (b := 55) (L := [.ref 27, .int x1, .int x2, .int x3, .int x4, .int x5, .int x6, .int x7, .int x8, .null]) (st := []) (w := w) rfl h1).trans <|
    (runs_stps (q' := (61, [.ref 27, .int x1, .int x2, .int x3, .int x4, .int x5, .int x6, .int x7, .int x8, .null], [.int x8, .int x7, .int x1, .ref 27], w)) 4 rfl).trans <|
    (runs_callV (rv := some (.int r1)) (w' := w1) rfl rfl rfl rfl h2).trans <|
    (runs_stps (q' := (68, [.ref 27, .int x1, .int x2, .int x3, .int x4, .int x5, .int x6, .int x7, .int x8, .int r1], [.int r1], w1)) 2 rfl).trans <|
    (runs_if_f (a := 103) (b := 71) (L := [.ref 27, .int x1, .int x2, .int x3, .int x4, .int x5, .int x6, .int x7, .int x8, .int r1]) (st := []) (w := w1) rfl h3).trans <|
    (runs_stps (q' := (84, [.ref 27, .int x1, .int x2, .int x3, .int x4, .int x5, .int x6, .int x7, .int x8, .int r1], [.int x6, .int (x5 - 1), .int x4, .int x3, .int x2, .int r1, .ref 27], w1)) 9 rfl).trans <|
    (runs_if_t (a := 87) (b := 91) (L := [.ref 27, .int x1, .int x2, .int x3, .int x4, .int x5, .int x6, .int x7, .int x8, .int r1]) (st := [.int (x5 - 1), .int x4, .int x3, .int x2, .int r1, .ref 27]) (w := w1) rfl h4).trans <|
    (runs_stps (q' := (92, [.ref 27, .int x1, .int x2, .int x3, .int x4, .int x5, .int x6, .int x7, .int x8, .int r1], [.int 1, .int (x5 - 1), .int x4, .int x3, .int x2, .int r1, .ref 27], w1)) 2 rfl).trans <|
    (runs_callSf (rv := some (.int r2)) (w' := w2) rfl rfl rfl h5).trans <|
    (runs_stps (q' := (97, [.ref 27, .int x1, .int x2, .int x3, .int x4, .int x5, .int x6, .int x7, .int x8, .null], [.int x6, .int r2], w2)) 1 rfl).trans <|
    (runs_if_f (a := 100) (b := 103) (L := [.ref 27, .int x1, .int x2, .int x3, .int x4, .int x5, .int x6, .int x7, .int x8, .null]) (st := []) (w := w2) rfl h6).trans <|
    (runs_stps (q' := (48, [.ref 27, .int x1, .int x2, .int x3, .int x4, .int x5, .int x6, .int x7, .int (x8 + 1), .null], [], w2)) 2 rfl).trans <|
    rfl
theorem p_X0_isWon_48FFFF_R {ex : Ex} {p : Nat} {x1 : Int32} {x2 : Int32} {x3 : Int32} {x4 : Int32} {x5 : Int32} {x6 : Int32} {x7 : Int32} {x8 : Int32} {v9 : Value} {r1 : Int32} {w1 : Wd} {r2 : Int32} {w2 : Wd} {w : Wd} (hp : scp p) (h1 : ¬ 7 < x8) (h2 : ex 76 [.ref p, .int x1, .int x7, .int x8] w = some (some (.int r1), w1)) (h3 : ¬ r1 < 0) (h4 : x6 = 0) (h5 : ex 0 [.ref p, .int r1, .int x2, .int x3, .int x4, .int (x5 - 1), .int 1] w1 = some (some (.int r2), w2)) (h6 : r2 = x6) (h7 : x6 = 0 ∨ x6 = 1) : runs (T_X0_isWon ex) (48, [.ref p, .int x1, .int x2, .int x3, .int x4, .int x5, .int x6, .int x7, .int x8, v9], [], w) = some (some (.int x6), w2) := by
  rcases hp with rfl | rfl
  · exact (runs_stps (q' := (52, [.ref 20, .int x1, .int x2, .int x3, .int x4, .int x5, .int x6, .int x7, .int x8, .null], [.int 7, .int x8], w)) 2 rfl).trans <|
    (runs_if_f (a := 109) (b := 55) (L := [.ref 20, .int x1, .int x2, .int x3, .int x4, .int x5, .int x6, .int x7, .int x8, .null]) (st := []) (w := w) rfl h1).trans <|
    (runs_stps (q' := (61, [.ref 20, .int x1, .int x2, .int x3, .int x4, .int x5, .int x6, .int x7, .int x8, .null], [.int x8, .int x7, .int x1, .ref 20], w)) 4 rfl).trans <|
    (runs_callV (rv := some (.int r1)) (w' := w1) rfl rfl rfl rfl h2).trans <|
    (runs_stps (q' := (68, [.ref 20, .int x1, .int x2, .int x3, .int x4, .int x5, .int x6, .int x7, .int x8, .int r1], [.int r1], w1)) 2 rfl).trans <|
    (runs_if_f (a := 103) (b := 71) (L := [.ref 20, .int x1, .int x2, .int x3, .int x4, .int x5, .int x6, .int x7, .int x8, .int r1]) (st := []) (w := w1) rfl h3).trans <|
    (runs_stps (q' := (84, [.ref 20, .int x1, .int x2, .int x3, .int x4, .int x5, .int x6, .int x7, .int x8, .int r1], [.int x6, .int (x5 - 1), .int x4, .int x3, .int x2, .int r1, .ref 20], w1)) 9 rfl).trans <|
    (runs_if_t (a := 87) (b := 91) (L := [.ref 20, .int x1, .int x2, .int x3, .int x4, .int x5, .int x6, .int x7, .int x8, .int r1]) (st := [.int (x5 - 1), .int x4, .int x3, .int x2, .int r1, .ref 20]) (w := w1) rfl h4).trans <|
    (runs_stps (q' := (92, [.ref 20, .int x1, .int x2, .int x3, .int x4, .int x5, .int x6, .int x7, .int x8, .int r1], [.int 1, .int (x5 - 1), .int x4, .int x3, .int x2, .int r1, .ref 20], w1)) 2 rfl).trans <|
    (runs_callSf (rv := some (.int r2)) (w' := w2) rfl rfl rfl h5).trans <|
    (runs_stps (q' := (97, [.ref 20, .int x1, .int x2, .int x3, .int x4, .int x5, .int x6, .int x7, .int x8, .null], [.int x6, .int r2], w2)) 1 rfl).trans <|
    (runs_if_t (a := 100) (b := 103) (L := [.ref 20, .int x1, .int x2, .int x3, .int x4, .int x5, .int x6, .int x7, .int x8, .null]) (st := []) (w := w2) rfl h6).trans <|
    (runs_stps (q' := (102, [.ref 20, .int x1, .int x2, .int x3, .int x4, .int x5, .int x6, .int x7, .int x8, .null], [.int x6], w2)) 1 rfl).trans <|
    runs_rck rfl h7
  · exact (runs_stps (q' := (52, [.ref 27, .int x1, .int x2, .int x3, .int x4, .int x5, .int x6, .int x7, .int x8, .null], [.int 7, .int x8], w)) 2 rfl).trans <|
    (runs_if_f (a := 109) (b := 55) (L := [.ref 27, .int x1, .int x2, .int x3, .int x4, .int x5, .int x6, .int x7, .int x8, .null]) (st := []) (w := w) rfl h1).trans <|
    (runs_stps (q' := (61, [.ref 27, .int x1, .int x2, .int x3, .int x4, .int x5, .int x6, .int x7, .int x8, .null], [.int x8, .int x7, .int x1, .ref 27], w)) 4 rfl).trans <|
    (runs_callV (rv := some (.int r1)) (w' := w1) rfl rfl rfl rfl h2).trans <|
    (runs_stps (q' := (68, [.ref 27, .int x1, .int x2, .int x3, .int x4, .int x5, .int x6, .int x7, .int x8, .int r1], [.int r1], w1)) 2 rfl).trans <|
    (runs_if_f (a := 103) (b := 71) (L := [.ref 27, .int x1, .int x2, .int x3, .int x4, .int x5, .int x6, .int x7, .int x8, .int r1]) (st := []) (w := w1) rfl h3).trans <|
    (runs_stps (q' := (84, [.ref 27, .int x1, .int x2, .int x3, .int x4, .int x5, .int x6, .int x7, .int x8, .int r1], [.int x6, .int (x5 - 1), .int x4, .int x3, .int x2, .int r1, .ref 27], w1)) 9 rfl).trans <|
    (runs_if_t (a := 87) (b := 91) (L := [.ref 27, .int x1, .int x2, .int x3, .int x4, .int x5, .int x6, .int x7, .int x8, .int r1]) (st := [.int (x5 - 1), .int x4, .int x3, .int x2, .int r1, .ref 27]) (w := w1) rfl h4).trans <|
    (runs_stps (q' := (92, [.ref 27, .int x1, .int x2, .int x3, .int x4, .int x5, .int x6, .int x7, .int x8, .int r1], [.int 1, .int (x5 - 1), .int x4, .int x3, .int x2, .int r1, .ref 27], w1)) 2 rfl).trans <|
    (runs_callSf (rv := some (.int r2)) (w' := w2) rfl rfl rfl h5).trans <|
    (runs_stps (q' := (97, [.ref 27, .int x1, .int x2, .int x3, .int x4, .int x5, .int x6, .int x7, .int x8, .null], [.int x6, .int r2], w2)) 1 rfl).trans <|
    (runs_if_t (a := 100) (b := 103) (L := [.ref 27, .int x1, .int x2, .int x3, .int x4, .int x5, .int x6, .int x7, .int x8, .null]) (st := []) (w := w2) rfl h6).trans <|
    (runs_stps (q' := (102, [.ref 27, .int x1, .int x2, .int x3, .int x4, .int x5, .int x6, .int x7, .int x8, .null], [.int x6], w2)) 1 rfl).trans <|
    runs_rck rfl h7
theorem p_X0_firstWord_0T_L11 {ex : Ex} {p : Nat} {x1 : Int32} {x2 : Int32} {x3 : Int32} {x4 : Int32} {x5 : Int32} {w : Wd} (hp : scp p) (h1 : 0 < x5) : runs (T_X0_firstWord ex) (0, [.ref p, .int x1, .int x2, .int x3, .int x4, .int x5, .null, .null], [], w) = runs (T_X0_firstWord ex) (11, [.ref p, .int x1, .int x2, .int x3, .int x4, .int x5, .int 0, .null], [], w) := by
  rcases hp with rfl | rfl
  · exact (runs_stps (q' := (2, [.ref 20, .int x1, .int x2, .int x3, .int x4, .int x5, .null, .null], [.int x5], w)) 1 rfl).trans <|
    (runs_if_t (a := 8) (b := 5) (L := [.ref 20, .int x1, .int x2, .int x3, .int x4, .int x5, .null, .null]) (st := []) (w := w) rfl h1).trans <|
    (runs_stps (q' := (11, [.ref 20, .int x1, .int x2, .int x3, .int x4, .int x5, .int 0, .null], [], w)) 2 rfl).trans <|
    rfl
  · exact (runs_stps (q' := (2, [.ref 27, .int x1, .int x2, .int x3, .int x4, .int x5, .null, .null], [.int x5], w)) 1 rfl).trans <|
    (runs_if_t (a := 8) (b := 5) (L := [.ref 27, .int x1, .int x2, .int x3, .int x4, .int x5, .null, .null]) (st := []) (w := w) rfl h1).trans <|
    (runs_stps (q' := (11, [.ref 27, .int x1, .int x2, .int x3, .int x4, .int x5, .int 0, .null], [], w)) 2 rfl).trans <|
    rfl
theorem p_X0_firstWord_0F_R {ex : Ex} {p : Nat} {x1 : Int32} {x2 : Int32} {x3 : Int32} {x4 : Int32} {x5 : Int32} {w : Wd} (hp : scp p) (h1 : ¬ 0 < x5) : runs (T_X0_firstWord ex) (0, [.ref p, .int x1, .int x2, .int x3, .int x4, .int x5, .null, .null], [], w) = some (some (.int (-9)), w) := by
  rcases hp with rfl | rfl
  · exact (runs_stps (q' := (2, [.ref 20, .int x1, .int x2, .int x3, .int x4, .int x5, .null, .null], [.int x5], w)) 1 rfl).trans <|
    (runs_if_f (a := 8) (b := 5) (L := [.ref 20, .int x1, .int x2, .int x3, .int x4, .int x5, .null, .null]) (st := []) (w := w) rfl h1).trans <|
    (runs_stps (q' := (7, [.ref 20, .int x1, .int x2, .int x3, .int x4, .int x5, .null, .null], [.int (-9)], w)) 1 rfl).trans <|
    runs_ret rfl
  · exact (runs_stps (q' := (2, [.ref 27, .int x1, .int x2, .int x3, .int x4, .int x5, .null, .null], [.int x5], w)) 1 rfl).trans <|
    (runs_if_f (a := 8) (b := 5) (L := [.ref 27, .int x1, .int x2, .int x3, .int x4, .int x5, .null, .null]) (st := []) (w := w) rfl h1).trans <|
    (runs_stps (q' := (7, [.ref 27, .int x1, .int x2, .int x3, .int x4, .int x5, .null, .null], [.int (-9)], w)) 1 rfl).trans <|
    runs_ret rfl
theorem p_X0_firstWord_11T_R {ex : Ex} {p : Nat} {x1 : Int32} {x2 : Int32} {x3 : Int32} {x4 : Int32} {x5 : Int32} {x6 : Int32} {v7 : Value} {w : Wd} (hp : scp p) (h1 : 7 < x6) : runs (T_X0_firstWord ex) (11, [.ref p, .int x1, .int x2, .int x3, .int x4, .int x5, .int x6, v7], [], w) = some (some (.int (-9)), w) := by
  rcases hp with rfl | rfl
  · exact (runs_stps (q' := (15, [.ref 20, .int x1, .int x2, .int x3, .int x4, .int x5, .int x6, .null], [.int 7, .int x6], w)) 2 rfl).trans <|
    (runs_if_t (a := 62) (b := 18) (L := [.ref 20, .int x1, .int x2, .int x3, .int x4, .int x5, .int x6, .null]) (st := []) (w := w) rfl h1).trans <|
    (runs_stps (q' := (64, [.null, .null, .null, .null, .null, .null, .null, .null], [.int (-9)], w)) 1 rfl).trans <|
    runs_ret rfl
  · exact (runs_stps (q' := (15, [.ref 27, .int x1, .int x2, .int x3, .int x4, .int x5, .int x6, .null], [.int 7, .int x6], w)) 2 rfl).trans <|
    (runs_if_t (a := 62) (b := 18) (L := [.ref 27, .int x1, .int x2, .int x3, .int x4, .int x5, .int x6, .null]) (st := []) (w := w) rfl h1).trans <|
    (runs_stps (q' := (64, [.null, .null, .null, .null, .null, .null, .null, .null], [.int (-9)], w)) 1 rfl).trans <|
    runs_ret rfl
theorem p_X0_firstWord_11FT_L11 {ex : Ex} {p : Nat} {x1 : Int32} {x2 : Int32} {x3 : Int32} {x4 : Int32} {x5 : Int32} {x6 : Int32} {v7 : Value} {r1 : Int32} {w1 : Wd} {w : Wd} (hp : scp p) (h1 : ¬ 7 < x6) (h2 : ex 76 [.ref p, .int x1, .int (1 <<< (x2 &&& 31)), .int x6] w = some (some (.int r1), w1)) (h3 : r1 < 0) : runs (T_X0_firstWord ex) (11, [.ref p, .int x1, .int x2, .int x3, .int x4, .int x5, .int x6, v7], [], w) = runs (T_X0_firstWord ex) (11, [.ref p, .int x1, .int x2, .int x3, .int x4, .int x5, .int (x6 + 1), .null], [], w1) := by
  rcases hp with rfl | rfl
  · exact (runs_stps (q' := (15, [.ref 20, .int x1, .int x2, .int x3, .int x4, .int x5, .int x6, .null], [.int 7, .int x6], w)) 2 rfl).trans <|
    (runs_if_f (a := 62) (b := 18) (L := [.ref 20, .int x1, .int x2, .int x3, .int x4, .int x5, .int x6, .null]) (st := []) (w := w) rfl h1).trans <|
    (runs_stps (q' := (25, [.ref 20, .int x1, .int x2, .int x3, .int x4, .int x5, .int x6, .null], [.int x6, .int (1 <<< (x2 &&& 31)), .int x1, .ref 20], w)) 6 rfl).trans <|
    (runs_callV (rv := some (.int r1)) (w' := w1) rfl rfl rfl rfl h2).trans <|
    (runs_stps (q' := (32, [.ref 20, .int x1, .int x2, .int x3, .int x4, .int x5, .int x6, .int r1], [.int r1], w1)) 2 rfl).trans <|
    (runs_if_t (a := 56) (b := 35) (L := [.ref 20, .int x1, .int x2, .int x3, .int x4, .int x5, .int x6, .int r1]) (st := []) (w := w1) rfl h3).trans <|
    (runs_stps (q' := (11, [.ref 20, .int x1, .int x2, .int x3, .int x4, .int x5, .int (x6 + 1), .null], [], w1)) 2 rfl).trans <|
    rfl
  · exact (runs_stps (q' := (15, [.ref 27, .int x1, .int x2, .int x3, .int x4, .int x5, .int x6, .null], [.int 7, .int x6], w)) 2 rfl).trans <|
    (runs_if_f (a := 62) (b := 18) (L := [.ref 27, .int x1, .int x2, .int x3, .int x4, .int x5, .int x6, .null]) (st := []) (w := w) rfl h1).trans <|
    (runs_stps (q' := (25, [.ref 27, .int x1, .int x2, .int x3, .int x4, .int x5, .int x6, .null], [.int x6, .int (1 <<< (x2 &&& 31)), .int x1, .ref 27], w)) 6 rfl).trans <|
    (runs_callV (rv := some (.int r1)) (w' := w1) rfl rfl rfl rfl h2).trans <|
    (runs_stps (q' := (32, [.ref 27, .int x1, .int x2, .int x3, .int x4, .int x5, .int x6, .int r1], [.int r1], w1)) 2 rfl).trans <|
    (runs_if_t (a := 56) (b := 35) (L := [.ref 27, .int x1, .int x2, .int x3, .int x4, .int x5, .int x6, .int r1]) (st := []) (w := w1) rfl h3).trans <|
    (runs_stps (q' := (11, [.ref 27, .int x1, .int x2, .int x3, .int x4, .int x5, .int (x6 + 1), .null], [], w1)) 2 rfl).trans <|
    rfl
theorem p_X0_firstWord_11FFT_L11 {ex : Ex} {p : Nat} {x1 : Int32} {x2 : Int32} {x3 : Int32} {x4 : Int32} {x5 : Int32} {x6 : Int32} {v7 : Value} {r1 : Int32} {w1 : Wd} {r2 : Int32} {w2 : Wd} {w : Wd} (hp : scp p) (h1 : ¬ 7 < x6) (h2 : ex 76 [.ref p, .int x1, .int (1 <<< (x2 &&& 31)), .int x6] w = some (some (.int r1), w1)) (h3 : ¬ r1 < 0) (h4 : ex 0 [.ref p, .int r1, .int x2, .int x3, .int x4, .int (x5 - 1), .int 0] w1 = some (some (.int r2), w2)) (h5 : r2 = 0) : runs (T_X0_firstWord ex) (11, [.ref p, .int x1, .int x2, .int x3, .int x4, .int x5, .int x6, v7], [], w) = runs (T_X0_firstWord ex) (11, [.ref p, .int x1, .int x2, .int x3, .int x4, .int x5, .int (x6 + 1), .null], [], w2) := by
  rcases hp with rfl | rfl
  · exact (runs_stps (q' := (15, [.ref 20, .int x1, .int x2, .int x3, .int x4, .int x5, .int x6, .null], [.int 7, .int x6], w)) 2 rfl).trans <|
    (runs_if_f (a := 62) (b := 18) (L := [.ref 20, .int x1, .int x2, .int x3, .int x4, .int x5, .int x6, .null]) (st := []) (w := w) rfl h1).trans <|
    (runs_stps (q' := (25, [.ref 20, .int x1, .int x2, .int x3, .int x4, .int x5, .int x6, .null], [.int x6, .int (1 <<< (x2 &&& 31)), .int x1, .ref 20], w)) 6 rfl).trans <|
    (runs_callV (rv := some (.int r1)) (w' := w1) rfl rfl rfl rfl h2).trans <|
    (runs_stps (q' := (32, [.ref 20, .int x1, .int x2, .int x3, .int x4, .int x5, .int x6, .int r1], [.int r1], w1)) 2 rfl).trans <|
    (runs_if_f (a := 56) (b := 35) (L := [.ref 20, .int x1, .int x2, .int x3, .int x4, .int x5, .int x6, .int r1]) (st := []) (w := w1) rfl h3).trans <|
    (runs_stps (q' := (47, [.ref 20, .int x1, .int x2, .int x3, .int x4, .int x5, .int x6, .int r1], [.int 0, .int (x5 - 1), .int x4, .int x3, .int x2, .int r1, .ref 20], w1)) 9 rfl).trans <|
    (runs_callS (rv := some (.int r2)) (w' := w2) rfl rfl rfl h4).trans <|
    (runs_if_t (a := 56) (b := 53) (L := [.ref 20, .int x1, .int x2, .int x3, .int x4, .int x5, .int x6, .int r1]) (st := []) (w := w2) rfl h5).trans <|
    (runs_stps (q' := (11, [.ref 20, .int x1, .int x2, .int x3, .int x4, .int x5, .int (x6 + 1), .null], [], w2)) 2 rfl).trans <|
    rfl
  · exact (runs_stps (q' := (15, [.ref 27, .int x1, .int x2, .int x3, .int x4, .int x5, .int x6, .null], [.int 7, .int x6], w)) 2 rfl).trans <|
    (runs_if_f (a := 62) (b := 18) (L := [.ref 27, .int x1, .int x2, .int x3, .int x4, .int x5, .int x6, .null]) (st := []) (w := w) rfl h1).trans <|
    (runs_stps (q' := (25, [.ref 27, .int x1, .int x2, .int x3, .int x4, .int x5, .int x6, .null], [.int x6, .int (1 <<< (x2 &&& 31)), .int x1, .ref 27], w)) 6 rfl).trans <|
    (runs_callV (rv := some (.int r1)) (w' := w1) rfl rfl rfl rfl h2).trans <|
    (runs_stps (q' := (32, [.ref 27, .int x1, .int x2, .int x3, .int x4, .int x5, .int x6, .int r1], [.int r1], w1)) 2 rfl).trans <|
    (runs_if_f (a := 56) (b := 35) (L := [.ref 27, .int x1, .int x2, .int x3, .int x4, .int x5, .int x6, .int r1]) (st := []) (w := w1) rfl h3).trans <|
    (runs_stps (q' := (47, [.ref 27, .int x1, .int x2, .int x3, .int x4, .int x5, .int x6, .int r1], [.int 0, .int (x5 - 1), .int x4, .int x3, .int x2, .int r1, .ref 27], w1)) 9 rfl).trans <|
    (runs_callS (rv := some (.int r2)) (w' := w2) rfl rfl rfl h4).trans <|
    (runs_if_t (a := 56) (b := 53) (L := [.ref 27, .int x1, .int x2, .int x3, .int x4, .int x5, .int x6, .int r1]) (st := []) (w := w2) rfl h5).trans <|
    (runs_stps (q' := (11, [.ref 27, .int x1, .int x2, .int x3, .int x4, .int x5, .int (x6 + 1), .null], [], w2)) 2 rfl).trans <|
    rfl
theorem p_X0_firstWord_11FFF_R {ex : Ex} {p : Nat} {x1 : Int32} {x2 : Int32} {x3 : Int32} {x4 : Int32} {x5 : Int32} {x6 : Int32} {v7 : Value} {r1 : Int32} {w1 : Wd} {r2 : Int32} {w2 : Wd} {w : Wd} (hp : scp p) (h1 : ¬ 7 < x6) (h2 : ex 76 [.ref p, .int x1, .int (1 <<< (x2 &&& 31)), .int x6] w = some (some (.int r1), w1)) (h3 : ¬ r1 < 0) (h4 : ex 0 [.ref p, .int r1, .int x2, .int x3, .int x4, .int (x5 - 1), .int 0] w1 = some (some (.int r2), w2)) (h5 : ¬ r2 = 0) : runs (T_X0_firstWord ex) (11, [.ref p, .int x1, .int x2, .int x3, .int x4, .int x5, .int x6, v7], [], w) = some (some (.int x6), w2) := by
  rcases hp with rfl | rfl
  · exact (runs_stps (q' := (15, [.ref 20, .int x1, .int x2, .int x3, .int x4, .int x5, .int x6, .null], [.int 7, .int x6], w)) 2 rfl).trans <|
    (runs_if_f (a := 62) (b := 18) (L := [.ref 20, .int x1, .int x2, .int x3, .int x4, .int x5, .int x6, .null]) (st := []) (w := w) rfl h1).trans <|
    (runs_stps (q' := (25, [.ref 20, .int x1, .int x2, .int x3, .int x4, .int x5, .int x6, .null], [.int x6, .int (1 <<< (x2 &&& 31)), .int x1, .ref 20], w)) 6 rfl).trans <|
    (runs_callV (rv := some (.int r1)) (w' := w1) rfl rfl rfl rfl h2).trans <|
    (runs_stps (q' := (32, [.ref 20, .int x1, .int x2, .int x3, .int x4, .int x5, .int x6, .int r1], [.int r1], w1)) 2 rfl).trans <|
    (runs_if_f (a := 56) (b := 35) (L := [.ref 20, .int x1, .int x2, .int x3, .int x4, .int x5, .int x6, .int r1]) (st := []) (w := w1) rfl h3).trans <|
    (runs_stps (q' := (47, [.ref 20, .int x1, .int x2, .int x3, .int x4, .int x5, .int x6, .int r1], [.int 0, .int (x5 - 1), .int x4, .int x3, .int x2, .int r1, .ref 20], w1)) 9 rfl).trans <|
    (runs_callS (rv := some (.int r2)) (w' := w2) rfl rfl rfl h4).trans <|
    (runs_if_f (a := 56) (b := 53) (L := [.ref 20, .int x1, .int x2, .int x3, .int x4, .int x5, .int x6, .int r1]) (st := []) (w := w2) rfl h5).trans <|
    (runs_stps (q' := (55, [.ref 20, .int x1, .int x2, .int x3, .int x4, .int x5, .int x6, .int r1], [.int x6], w2)) 1 rfl).trans <|
    runs_ret rfl
  · exact (runs_stps (q' := (15, [.ref 27, .int x1, .int x2, .int x3, .int x4, .int x5, .int x6, .null], [.int 7, .int x6], w)) 2 rfl).trans <|
    (runs_if_f (a := 62) (b := 18) (L := [.ref 27, .int x1, .int x2, .int x3, .int x4, .int x5, .int x6, .null]) (st := []) (w := w) rfl h1).trans <|
    (runs_stps (q' := (25, [.ref 27, .int x1, .int x2, .int x3, .int x4, .int x5, .int x6, .null], [.int x6, .int (1 <<< (x2 &&& 31)), .int x1, .ref 27], w)) 6 rfl).trans <|
    (runs_callV (rv := some (.int r1)) (w' := w1) rfl rfl rfl rfl h2).trans <|
    (runs_stps (q' := (32, [.ref 27, .int x1, .int x2, .int x3, .int x4, .int x5, .int x6, .int r1], [.int r1], w1)) 2 rfl).trans <|
    (runs_if_f (a := 56) (b := 35) (L := [.ref 27, .int x1, .int x2, .int x3, .int x4, .int x5, .int x6, .int r1]) (st := []) (w := w1) rfl h3).trans <|
    (runs_stps (q' := (47, [.ref 27, .int x1, .int x2, .int x3, .int x4, .int x5, .int x6, .int r1], [.int 0, .int (x5 - 1), .int x4, .int x3, .int x2, .int r1, .ref 27], w1)) 9 rfl).trans <|
    (runs_callS (rv := some (.int r2)) (w' := w2) rfl rfl rfl h4).trans <|
    (runs_if_f (a := 56) (b := 53) (L := [.ref 27, .int x1, .int x2, .int x3, .int x4, .int x5, .int x6, .int r1]) (st := []) (w := w2) rfl h5).trans <|
    (runs_stps (q' := (55, [.ref 27, .int x1, .int x2, .int x3, .int x4, .int x5, .int x6, .int r1], [.int x6], w2)) 1 rfl).trans <|
    runs_ret rfl
theorem p_X1_seen_0_R {ex : Ex} {w : Wd} : runs (T_X1_seen ex) (0, [.ref 15], [], w) = some (some (.int (w.1 15 2)), w) := 
    (runs_stps (q' := (4, [.ref 15], [.int (w.1 15 2)], w)) 2 rfl).trans <|
    runs_ret rfl
theorem p_X1_seeNothing_0_R {ex : Ex} {w : Wd} : runs (T_X1_seeNothing ex) (0, [.ref 15], [], w) = some (none, updI w 15 2 0) := 
    (runs_stps (q' := (5, [.ref 15], [], updI w 15 2 0)) 3 rfl).trans <|
    runs_ret rfl
theorem p_X1_see_0T_R {ex : Ex} {x1 : Int32} {x2 : Int32} {w1 : Wd} {w2 : Wd} {w : Wd} (h1 : (w.1 15 2) < 6) (h2 : ex 134 [.ref 16, .int (w.1 15 2), .int x1] w = some (none, w1)) (h3 : ex 134 [.ref 17, .int (w1.1 15 2), .int x2] w1 = some (none, w2)) : runs (T_X1_see ex) (0, [.ref 15, .int x1, .int x2], [], w) = some (some (.int 1), updI w2 15 2 ((w2.1 15 2) + 1)) := 
    (runs_stps (q' := (6, [.ref 15, .int x1, .int x2], [.int 6, .int (w.1 15 2)], w)) 3 rfl).trans <|
    (runs_if_t (a := 11) (b := 9) (L := [.ref 15, .int x1, .int x2]) (st := []) (w := w) rfl h1).trans <|
    (runs_stps (q' := (20, [.ref 15, .int x1, .int x2], [.int x1, .int (w.1 15 2), .ref 16], w)) 5 rfl).trans <|
    (runs_callS (rv := none) (w' := w1) rfl rfl rfl h2).trans <|
    (runs_stps (q' := (32, [.ref 15, .int x1, .int x2], [.int x2, .int (w1.1 15 2), .ref 17], w1)) 5 rfl).trans <|
    (runs_callS (rv := none) (w' := w2) rfl rfl rfl h3).trans <|
    (runs_stps (q' := (46, [.ref 15, .int x1, .int x2], [.int 1], updI w2 15 2 ((w2.1 15 2) + 1))) 7 rfl).trans <|
    runs_ret rfl
theorem p_X1_see_0F_R {ex : Ex} {x1 : Int32} {x2 : Int32} {w : Wd} (h1 : ¬ (w.1 15 2) < 6) : runs (T_X1_see ex) (0, [.ref 15, .int x1, .int x2], [], w) = some (some (.int 0), w) := 
    (runs_stps (q' := (6, [.ref 15, .int x1, .int x2], [.int 6, .int (w.1 15 2)], w)) 3 rfl).trans <|
    (runs_if_f (a := 11) (b := 9) (L := [.ref 15, .int x1, .int x2]) (st := []) (w := w) rfl h1).trans <|
    (runs_stps (q' := (10, [.ref 15, .int x1, .int x2], [.int 0], w)) 1 rfl).trans <|
    runs_ret rfl
theorem p_X1_possible_0_L4 {ex : Ex} {p : Nat} {w : Wd} (hp : scp p) : runs (T_X1_possible ex) (0, [.ref 15, .ref p, .null, .null], [], w) = runs (T_X1_possible ex) (4, [.ref 15, .ref p, .int 0, .int 0], [], w) := by
  rcases hp with rfl | rfl
  · exact (runs_stps (q' := (4, [.ref 15, .ref 20, .int 0, .int 0], [], w)) 4 rfl).trans <|
    rfl
  · exact (runs_stps (q' := (4, [.ref 15, .ref 27, .int 0, .int 0], [], w)) 4 rfl).trans <|
    rfl
theorem p_X1_possible_4T_R {ex : Ex} {p : Nat} {x2 : Int32} {x3 : Int32} {w : Wd} (hp : scp p) (h1 : 156 ≤ x3) : runs (T_X1_possible ex) (4, [.ref 15, .ref p, .int x2, .int x3], [], w) = some (some (.int x2), w) := by
  rcases hp with rfl | rfl
  · exact (runs_stps (q' := (8, [.ref 15, .ref 20, .int x2, .int x3], [.int 156, .int x3], w)) 2 rfl).trans <|
    (runs_if_t (a := 34) (b := 11) (L := [.ref 15, .ref 20, .int x2, .int x3]) (st := []) (w := w) rfl h1).trans <|
    (runs_stps (q' := (35, [.null, .null, .int x2, .null], [.int x2], w)) 1 rfl).trans <|
    runs_ret rfl
  · exact (runs_stps (q' := (8, [.ref 15, .ref 27, .int x2, .int x3], [.int 156, .int x3], w)) 2 rfl).trans <|
    (runs_if_t (a := 34) (b := 11) (L := [.ref 15, .ref 27, .int x2, .int x3]) (st := []) (w := w) rfl h1).trans <|
    (runs_stps (q' := (35, [.null, .null, .int x2, .null], [.int x2], w)) 1 rfl).trans <|
    runs_ret rfl
theorem p_X1_possible_4FT_L4 {ex : Ex} {p : Nat} {x2 : Int32} {x3 : Int32} {r1 : Int32} {w1 : Wd} {w : Wd} (hp : scp p) (h1 : ¬ 156 ≤ x3) (h2 : ex 9 [.ref 15, .ref p, .int x3] w = some (some (.int r1), w1)) (h3 : r1 = 0) : runs (T_X1_possible ex) (4, [.ref 15, .ref p, .int x2, .int x3], [], w) = runs (T_X1_possible ex) (4, [.ref 15, .ref p, .int (x2 + 0), .int (x3 + 1)], [], w1) := by
  rcases hp with rfl | rfl
  · exact (runs_stps (q' := (8, [.ref 15, .ref 20, .int x2, .int x3], [.int 156, .int x3], w)) 2 rfl).trans <|
    (runs_if_f (a := 34) (b := 11) (L := [.ref 15, .ref 20, .int x2, .int x3]) (st := []) (w := w) rfl h1).trans <|
    (runs_stps (q' := (15, [.ref 15, .ref 20, .int x2, .int x3], [.int x3, .ref 20, .ref 15, .int x2], w)) 4 rfl).trans <|
    (runs_callV (rv := some (.int r1)) (w' := w1) rfl rfl rfl rfl h2).trans <|
    (runs_if_t (a := 25) (b := 21) (L := [.ref 15, .ref 20, .int x2, .int x3]) (st := [.int x2]) (w := w1) rfl h3).trans <|
    (runs_stps (q' := (4, [.ref 15, .ref 20, .int (x2 + 0), .int (x3 + 1)], [], w1)) 5 rfl).trans <|
    rfl
  · exact (runs_stps (q' := (8, [.ref 15, .ref 27, .int x2, .int x3], [.int 156, .int x3], w)) 2 rfl).trans <|
    (runs_if_f (a := 34) (b := 11) (L := [.ref 15, .ref 27, .int x2, .int x3]) (st := []) (w := w) rfl h1).trans <|
    (runs_stps (q' := (15, [.ref 15, .ref 27, .int x2, .int x3], [.int x3, .ref 27, .ref 15, .int x2], w)) 4 rfl).trans <|
    (runs_callV (rv := some (.int r1)) (w' := w1) rfl rfl rfl rfl h2).trans <|
    (runs_if_t (a := 25) (b := 21) (L := [.ref 15, .ref 27, .int x2, .int x3]) (st := [.int x2]) (w := w1) rfl h3).trans <|
    (runs_stps (q' := (4, [.ref 15, .ref 27, .int (x2 + 0), .int (x3 + 1)], [], w1)) 5 rfl).trans <|
    rfl
theorem p_X1_possible_4FF_L4 {ex : Ex} {p : Nat} {x2 : Int32} {x3 : Int32} {r1 : Int32} {w1 : Wd} {w : Wd} (hp : scp p) (h1 : ¬ 156 ≤ x3) (h2 : ex 9 [.ref 15, .ref p, .int x3] w = some (some (.int r1), w1)) (h3 : ¬ r1 = 0) : runs (T_X1_possible ex) (4, [.ref 15, .ref p, .int x2, .int x3], [], w) = runs (T_X1_possible ex) (4, [.ref 15, .ref p, .int (x2 + 1), .int (x3 + 1)], [], w1) := by
  rcases hp with rfl | rfl
  · exact (runs_stps (q' := (8, [.ref 15, .ref 20, .int x2, .int x3], [.int 156, .int x3], w)) 2 rfl).trans <|
    (runs_if_f (a := 34) (b := 11) (L := [.ref 15, .ref 20, .int x2, .int x3]) (st := []) (w := w) rfl h1).trans <|
    (runs_stps (q' := (15, [.ref 15, .ref 20, .int x2, .int x3], [.int x3, .ref 20, .ref 15, .int x2], w)) 4 rfl).trans <|
    (runs_callV (rv := some (.int r1)) (w' := w1) rfl rfl rfl rfl h2).trans <|
    (runs_if_f (a := 25) (b := 21) (L := [.ref 15, .ref 20, .int x2, .int x3]) (st := [.int x2]) (w := w1) rfl h3).trans <|
    (runs_stps (q' := (4, [.ref 15, .ref 20, .int (x2 + 1), .int (x3 + 1)], [], w1)) 6 rfl).trans <|
    rfl
  · exact (runs_stps (q' := (8, [.ref 15, .ref 27, .int x2, .int x3], [.int 156, .int x3], w)) 2 rfl).trans <|
    (runs_if_f (a := 34) (b := 11) (L := [.ref 15, .ref 27, .int x2, .int x3]) (st := []) (w := w) rfl h1).trans <|
    (runs_stps (q' := (15, [.ref 15, .ref 27, .int x2, .int x3], [.int x3, .ref 27, .ref 15, .int x2], w)) 4 rfl).trans <|
    (runs_callV (rv := some (.int r1)) (w' := w1) rfl rfl rfl rfl h2).trans <|
    (runs_if_f (a := 25) (b := 21) (L := [.ref 15, .ref 27, .int x2, .int x3]) (st := [.int x2]) (w := w1) rfl h3).trans <|
    (runs_stps (q' := (4, [.ref 15, .ref 27, .int (x2 + 1), .int (x3 + 1)], [], w1)) 6 rfl).trans <|
    rfl
theorem p_X1_spellAt_0_L6 {ex : Ex} {p : Nat} {x2 : Int32} {w : Wd} (hp : scp p) : runs (T_X1_spellAt ex) (0, [.ref 15, .ref p, .int x2, .null, .null, .null], [], w) = runs (T_X1_spellAt ex) (6, [.ref 15, .ref p, .int x2, .int (-9), .int 0, .null], [], w) := by
  rcases hp with rfl | rfl
  · exact (runs_stps (q' := (6, [.ref 15, .ref 20, .int x2, .int (-9), .int 0, .null], [], w)) 4 rfl).trans <|
    rfl
  · exact (runs_stps (q' := (6, [.ref 15, .ref 27, .int x2, .int (-9), .int 0, .null], [], w)) 4 rfl).trans <|
    rfl
theorem p_X1_spellAt_6T_R {ex : Ex} {p : Nat} {x2 : Int32} {x3 : Int32} {x4 : Int32} {v5 : Value} {w : Wd} (hp : scp p) (h1 : 156 ≤ x4) : runs (T_X1_spellAt ex) (6, [.ref 15, .ref p, .int x2, .int x3, .int x4, v5], [], w) = some (some (.int x3), w) := by
  rcases hp with rfl | rfl
  · exact (runs_stps (q' := (11, [.ref 15, .ref 20, .int x2, .int x3, .int x4, .null], [.int 156, .int x4], w)) 2 rfl).trans <|
    (runs_if_t (a := 56) (b := 14) (L := [.ref 15, .ref 20, .int x2, .int x3, .int x4, .null]) (st := []) (w := w) rfl h1).trans <|
    (runs_stps (q' := (57, [.null, .null, .null, .int x3, .null, .null], [.int x3], w)) 1 rfl).trans <|
    runs_ret rfl
  · exact (runs_stps (q' := (11, [.ref 15, .ref 27, .int x2, .int x3, .int x4, .null], [.int 156, .int x4], w)) 2 rfl).trans <|
    (runs_if_t (a := 56) (b := 14) (L := [.ref 15, .ref 27, .int x2, .int x3, .int x4, .null]) (st := []) (w := w) rfl h1).trans <|
    (runs_stps (q' := (57, [.null, .null, .null, .int x3, .null, .null], [.int x3], w)) 1 rfl).trans <|
    runs_ret rfl
theorem p_X1_spellAt_6FT_L6 {ex : Ex} {p : Nat} {x2 : Int32} {x3 : Int32} {x4 : Int32} {v5 : Value} {r1 : Int32} {w1 : Wd} {w : Wd} (hp : scp p) (h1 : ¬ 156 ≤ x4) (h2 : ex 9 [.ref 15, .ref p, .int x4] w = some (some (.int r1), w1)) (h3 : r1 = 0) : runs (T_X1_spellAt ex) (6, [.ref 15, .ref p, .int x2, .int x3, .int x4, v5], [], w) = runs (T_X1_spellAt ex) (6, [.ref 15, .ref p, .int x2, .int x3, .int (x4 + 1), .null], [], w1) := by
  rcases hp with rfl | rfl
  · exact (runs_stps (q' := (11, [.ref 15, .ref 20, .int x2, .int x3, .int x4, .null], [.int 156, .int x4], w)) 2 rfl).trans <|
    (runs_if_f (a := 56) (b := 14) (L := [.ref 15, .ref 20, .int x2, .int x3, .int x4, .null]) (st := []) (w := w) rfl h1).trans <|
    (runs_stps (q' := (18, [.ref 15, .ref 20, .int x2, .int x3, .int x4, .null], [.int x4, .ref 20, .ref 15], w)) 3 rfl).trans <|
    (runs_callV (rv := some (.int r1)) (w' := w1) rfl rfl rfl rfl h2).trans <|
    (runs_if_t (a := 50) (b := 24) (L := [.ref 15, .ref 20, .int x2, .int x3, .int x4, .null]) (st := []) (w := w1) rfl h3).trans <|
    (runs_stps (q' := (6, [.ref 15, .ref 20, .int x2, .int x3, .int (x4 + 1), .null], [], w1)) 2 rfl).trans <|
    rfl
  · exact (runs_stps (q' := (11, [.ref 15, .ref 27, .int x2, .int x3, .int x4, .null], [.int 156, .int x4], w)) 2 rfl).trans <|
    (runs_if_f (a := 56) (b := 14) (L := [.ref 15, .ref 27, .int x2, .int x3, .int x4, .null]) (st := []) (w := w) rfl h1).trans <|
    (runs_stps (q' := (18, [.ref 15, .ref 27, .int x2, .int x3, .int x4, .null], [.int x4, .ref 27, .ref 15], w)) 3 rfl).trans <|
    (runs_callV (rv := some (.int r1)) (w' := w1) rfl rfl rfl rfl h2).trans <|
    (runs_if_t (a := 50) (b := 24) (L := [.ref 15, .ref 27, .int x2, .int x3, .int x4, .null]) (st := []) (w := w1) rfl h3).trans <|
    (runs_stps (q' := (6, [.ref 15, .ref 27, .int x2, .int x3, .int (x4 + 1), .null], [], w1)) 2 rfl).trans <|
    rfl
theorem p_X1_spellAt_6FFT_L6 {ex : Ex} {p : Nat} {x2 : Int32} {x3 : Int32} {x4 : Int32} {v5 : Value} {r1 : Int32} {w1 : Wd} {r2 : Int32} {w2 : Wd} {w : Wd} (hp : scp p) (h1 : ¬ 156 ≤ x4) (h2 : ex 9 [.ref 15, .ref p, .int x4] w = some (some (.int r1), w1)) (h3 : ¬ r1 = 0) (h4 : ex 43 [.int x4, .int x2] w1 = some (some (.int r2), w2)) (h5 : x3 = (-9)) : runs (T_X1_spellAt ex) (6, [.ref 15, .ref p, .int x2, .int x3, .int x4, v5], [], w) = runs (T_X1_spellAt ex) (6, [.ref 15, .ref p, .int x2, .int r2, .int (x4 + 1), .null], [], w2) := by
  rcases hp with rfl | rfl
  · exact (runs_stps (q' := (11, [.ref 15, .ref 20, .int x2, .int x3, .int x4, .null], [.int 156, .int x4], w)) 2 rfl).trans <|
    (runs_if_f (a := 56) (b := 14) (L := [.ref 15, .ref 20, .int x2, .int x3, .int x4, .null]) (st := []) (w := w) rfl h1).trans <|
    (runs_stps (q' := (18, [.ref 15, .ref 20, .int x2, .int x3, .int x4, .null], [.int x4, .ref 20, .ref 15], w)) 3 rfl).trans <|
    (runs_callV (rv := some (.int r1)) (w' := w1) rfl rfl rfl rfl h2).trans <|
    (runs_if_f (a := 50) (b := 24) (L := [.ref 15, .ref 20, .int x2, .int x3, .int x4, .null]) (st := []) (w := w1) rfl h3).trans <|
    (runs_stps (q' := (27, [.ref 15, .ref 20, .int x2, .int x3, .int x4, .null], [.int x2, .int x4], w1)) 2 rfl).trans <|
    (runs_callS (rv := some (.int r2)) (w' := w2) rfl rfl rfl h4).trans <|
    (runs_stps (q' := (35, [.ref 15, .ref 20, .int x2, .int x3, .int x4, .int r2], [.int (-9), .int x3], w2)) 3 rfl).trans <|
    (runs_if_t (a := 47) (b := 38) (L := [.ref 15, .ref 20, .int x2, .int x3, .int x4, .int r2]) (st := []) (w := w2) rfl h5).trans <|
    (runs_stps (q' := (6, [.ref 15, .ref 20, .int x2, .int r2, .int (x4 + 1), .null], [], w2)) 4 rfl).trans <|
    rfl
  · exact (runs_stps (q' := (11, [.ref 15, .ref 27, .int x2, .int x3, .int x4, .null], [.int 156, .int x4], w)) 2 rfl).trans <|
    (runs_if_f (a := 56) (b := 14) (L := [.ref 15, .ref 27, .int x2, .int x3, .int x4, .null]) (st := []) (w := w) rfl h1).trans <|
    (runs_stps (q' := (18, [.ref 15, .ref 27, .int x2, .int x3, .int x4, .null], [.int x4, .ref 27, .ref 15], w)) 3 rfl).trans <|
    (runs_callV (rv := some (.int r1)) (w' := w1) rfl rfl rfl rfl h2).trans <|
    (runs_if_f (a := 50) (b := 24) (L := [.ref 15, .ref 27, .int x2, .int x3, .int x4, .null]) (st := []) (w := w1) rfl h3).trans <|
    (runs_stps (q' := (27, [.ref 15, .ref 27, .int x2, .int x3, .int x4, .null], [.int x2, .int x4], w1)) 2 rfl).trans <|
    (runs_callS (rv := some (.int r2)) (w' := w2) rfl rfl rfl h4).trans <|
    (runs_stps (q' := (35, [.ref 15, .ref 27, .int x2, .int x3, .int x4, .int r2], [.int (-9), .int x3], w2)) 3 rfl).trans <|
    (runs_if_t (a := 47) (b := 38) (L := [.ref 15, .ref 27, .int x2, .int x3, .int x4, .int r2]) (st := []) (w := w2) rfl h5).trans <|
    (runs_stps (q' := (6, [.ref 15, .ref 27, .int x2, .int r2, .int (x4 + 1), .null], [], w2)) 4 rfl).trans <|
    rfl
theorem p_X1_spellAt_6FFFT_L6 {ex : Ex} {p : Nat} {x2 : Int32} {x3 : Int32} {x4 : Int32} {v5 : Value} {r1 : Int32} {w1 : Wd} {r2 : Int32} {w2 : Wd} {w : Wd} (hp : scp p) (h1 : ¬ 156 ≤ x4) (h2 : ex 9 [.ref 15, .ref p, .int x4] w = some (some (.int r1), w1)) (h3 : ¬ r1 = 0) (h4 : ex 43 [.int x4, .int x2] w1 = some (some (.int r2), w2)) (h5 : ¬ x3 = (-9)) (h6 : x3 = r2) : runs (T_X1_spellAt ex) (6, [.ref 15, .ref p, .int x2, .int x3, .int x4, v5], [], w) = runs (T_X1_spellAt ex) (6, [.ref 15, .ref p, .int x2, .int r2, .int (x4 + 1), .null], [], w2) := by
  rcases hp with rfl | rfl
  · exact (runs_stps (q' := (11, [.ref 15, .ref 20, .int x2, .int x3, .int x4, .null], [.int 156, .int x4], w)) 2 rfl).trans <|
    (runs_if_f (a := 56) (b := 14) (L := [.ref 15, .ref 20, .int x2, .int x3, .int x4, .null]) (st := []) (w := w) rfl h1).trans <|
    (runs_stps (q' := (18, [.ref 15, .ref 20, .int x2, .int x3, .int x4, .null], [.int x4, .ref 20, .ref 15], w)) 3 rfl).trans <|
    (runs_callV (rv := some (.int r1)) (w' := w1) rfl rfl rfl rfl h2).trans <|
    (runs_if_f (a := 50) (b := 24) (L := [.ref 15, .ref 20, .int x2, .int x3, .int x4, .null]) (st := []) (w := w1) rfl h3).trans <|
    (runs_stps (q' := (27, [.ref 15, .ref 20, .int x2, .int x3, .int x4, .null], [.int x2, .int x4], w1)) 2 rfl).trans <|
    (runs_callS (rv := some (.int r2)) (w' := w2) rfl rfl rfl h4).trans <|
    (runs_stps (q' := (35, [.ref 15, .ref 20, .int x2, .int x3, .int x4, .int r2], [.int (-9), .int x3], w2)) 3 rfl).trans <|
    (runs_if_f (a := 47) (b := 38) (L := [.ref 15, .ref 20, .int x2, .int x3, .int x4, .int r2]) (st := []) (w := w2) rfl h5).trans <|
    (runs_stps (q' := (41, [.ref 15, .ref 20, .int x2, .int x3, .int x4, .int r2], [.int r2, .int x3], w2)) 2 rfl).trans <|
    (runs_if_t (a := 47) (b := 44) (L := [.ref 15, .ref 20, .int x2, .int x3, .int x4, .int r2]) (st := []) (w := w2) rfl h6).trans <|
    (runs_stps (q' := (6, [.ref 15, .ref 20, .int x2, .int r2, .int (x4 + 1), .null], [], w2)) 4 rfl).trans <|
    rfl
  · exact (runs_stps (q' := (11, [.ref 15, .ref 27, .int x2, .int x3, .int x4, .null], [.int 156, .int x4], w)) 2 rfl).trans <|
    (runs_if_f (a := 56) (b := 14) (L := [.ref 15, .ref 27, .int x2, .int x3, .int x4, .null]) (st := []) (w := w) rfl h1).trans <|
    (runs_stps (q' := (18, [.ref 15, .ref 27, .int x2, .int x3, .int x4, .null], [.int x4, .ref 27, .ref 15], w)) 3 rfl).trans <|
    (runs_callV (rv := some (.int r1)) (w' := w1) rfl rfl rfl rfl h2).trans <|
    (runs_if_f (a := 50) (b := 24) (L := [.ref 15, .ref 27, .int x2, .int x3, .int x4, .null]) (st := []) (w := w1) rfl h3).trans <|
    (runs_stps (q' := (27, [.ref 15, .ref 27, .int x2, .int x3, .int x4, .null], [.int x2, .int x4], w1)) 2 rfl).trans <|
    (runs_callS (rv := some (.int r2)) (w' := w2) rfl rfl rfl h4).trans <|
    (runs_stps (q' := (35, [.ref 15, .ref 27, .int x2, .int x3, .int x4, .int r2], [.int (-9), .int x3], w2)) 3 rfl).trans <|
    (runs_if_f (a := 47) (b := 38) (L := [.ref 15, .ref 27, .int x2, .int x3, .int x4, .int r2]) (st := []) (w := w2) rfl h5).trans <|
    (runs_stps (q' := (41, [.ref 15, .ref 27, .int x2, .int x3, .int x4, .int r2], [.int r2, .int x3], w2)) 2 rfl).trans <|
    (runs_if_t (a := 47) (b := 44) (L := [.ref 15, .ref 27, .int x2, .int x3, .int x4, .int r2]) (st := []) (w := w2) rfl h6).trans <|
    (runs_stps (q' := (6, [.ref 15, .ref 27, .int x2, .int r2, .int (x4 + 1), .null], [], w2)) 4 rfl).trans <|
    rfl
theorem p_X1_spellAt_6FFFF_R {ex : Ex} {p : Nat} {x2 : Int32} {x3 : Int32} {x4 : Int32} {v5 : Value} {r1 : Int32} {w1 : Wd} {r2 : Int32} {w2 : Wd} {w : Wd} (hp : scp p) (h1 : ¬ 156 ≤ x4) (h2 : ex 9 [.ref 15, .ref p, .int x4] w = some (some (.int r1), w1)) (h3 : ¬ r1 = 0) (h4 : ex 43 [.int x4, .int x2] w1 = some (some (.int r2), w2)) (h5 : ¬ x3 = (-9)) (h6 : ¬ x3 = r2) : runs (T_X1_spellAt ex) (6, [.ref 15, .ref p, .int x2, .int x3, .int x4, v5], [], w) = some (some (.int (-5)), w2) := by
  rcases hp with rfl | rfl
  · exact (runs_stps (q' := (11, [.ref 15, .ref 20, .int x2, .int x3, .int x4, .null], [.int 156, .int x4], w)) 2 rfl).trans <|
    (runs_if_f (a := 56) (b := 14) (L := [.ref 15, .ref 20, .int x2, .int x3, .int x4, .null]) (st := []) (w := w) rfl h1).trans <|
    (runs_stps (q' := (18, [.ref 15, .ref 20, .int x2, .int x3, .int x4, .null], [.int x4, .ref 20, .ref 15], w)) 3 rfl).trans <|
    (runs_callV (rv := some (.int r1)) (w' := w1) rfl rfl rfl rfl h2).trans <|
    (runs_if_f (a := 50) (b := 24) (L := [.ref 15, .ref 20, .int x2, .int x3, .int x4, .null]) (st := []) (w := w1) rfl h3).trans <|
    (runs_stps (q' := (27, [.ref 15, .ref 20, .int x2, .int x3, .int x4, .null], [.int x2, .int x4], w1)) 2 rfl).trans <|
    (runs_callS (rv := some (.int r2)) (w' := w2) rfl rfl rfl h4).trans <|
    (runs_stps (q' := (35, [.ref 15, .ref 20, .int x2, .int x3, .int x4, .int r2], [.int (-9), .int x3], w2)) 3 rfl).trans <|
    (runs_if_f (a := 47) (b := 38) (L := [.ref 15, .ref 20, .int x2, .int x3, .int x4, .int r2]) (st := []) (w := w2) rfl h5).trans <|
    (runs_stps (q' := (41, [.ref 15, .ref 20, .int x2, .int x3, .int x4, .int r2], [.int r2, .int x3], w2)) 2 rfl).trans <|
    (runs_if_f (a := 47) (b := 44) (L := [.ref 15, .ref 20, .int x2, .int x3, .int x4, .int r2]) (st := []) (w := w2) rfl h6).trans <|
    (runs_stps (q' := (46, [.ref 15, .ref 20, .int x2, .int x3, .int x4, .int r2], [.int (-5)], w2)) 1 rfl).trans <|
    runs_ret rfl
  · exact (runs_stps (q' := (11, [.ref 15, .ref 27, .int x2, .int x3, .int x4, .null], [.int 156, .int x4], w)) 2 rfl).trans <|
    (runs_if_f (a := 56) (b := 14) (L := [.ref 15, .ref 27, .int x2, .int x3, .int x4, .null]) (st := []) (w := w) rfl h1).trans <|
    (runs_stps (q' := (18, [.ref 15, .ref 27, .int x2, .int x3, .int x4, .null], [.int x4, .ref 27, .ref 15], w)) 3 rfl).trans <|
    (runs_callV (rv := some (.int r1)) (w' := w1) rfl rfl rfl rfl h2).trans <|
    (runs_if_f (a := 50) (b := 24) (L := [.ref 15, .ref 27, .int x2, .int x3, .int x4, .null]) (st := []) (w := w1) rfl h3).trans <|
    (runs_stps (q' := (27, [.ref 15, .ref 27, .int x2, .int x3, .int x4, .null], [.int x2, .int x4], w1)) 2 rfl).trans <|
    (runs_callS (rv := some (.int r2)) (w' := w2) rfl rfl rfl h4).trans <|
    (runs_stps (q' := (35, [.ref 15, .ref 27, .int x2, .int x3, .int x4, .int r2], [.int (-9), .int x3], w2)) 3 rfl).trans <|
    (runs_if_f (a := 47) (b := 38) (L := [.ref 15, .ref 27, .int x2, .int x3, .int x4, .int r2]) (st := []) (w := w2) rfl h5).trans <|
    (runs_stps (q' := (41, [.ref 15, .ref 27, .int x2, .int x3, .int x4, .int r2], [.int r2, .int x3], w2)) 2 rfl).trans <|
    (runs_if_f (a := 47) (b := 44) (L := [.ref 15, .ref 27, .int x2, .int x3, .int x4, .int r2]) (st := []) (w := w2) rfl h6).trans <|
    (runs_stps (q' := (46, [.ref 15, .ref 27, .int x2, .int x3, .int x4, .int r2], [.int (-5)], w2)) 1 rfl).trans <|
    runs_ret rfl
theorem p_X1_bestToLift_0_L10 {ex : Ex} {p : Nat} {w : Wd} (hp : scp p) : runs (T_X1_bestToLift ex) (0, [.ref 15, .ref p, .null, .null, .null, .null], [], w) = runs (T_X1_bestToLift ex) (10, [.ref 15, .ref p, .int (-9), .int 157, .int 0, .null], [], w) := by
  rcases hp with rfl | rfl
  · exact (runs_stps (q' := (10, [.ref 15, .ref 20, .int (-9), .int 157, .int 0, .null], [], w)) 6 rfl).trans <|
    rfl
  · exact (runs_stps (q' := (10, [.ref 15, .ref 27, .int (-9), .int 157, .int 0, .null], [], w)) 6 rfl).trans <|
    rfl
theorem p_X1_bestToLift_10T_R {ex : Ex} {p : Nat} {x2 : Int32} {x3 : Int32} {x4 : Int32} {v5 : Value} {w : Wd} (hp : scp p) (h1 : 3 < x4) : runs (T_X1_bestToLift ex) (10, [.ref 15, .ref p, .int x2, .int x3, .int x4, v5], [], w) = some (some (.int x2), w) := by
  rcases hp with rfl | rfl
  · exact (runs_stps (q' := (13, [.ref 15, .ref 20, .int x2, .int x3, .int x4, .null], [.int 3, .int x4], w)) 2 rfl).trans <|
    (runs_if_t (a := 48) (b := 16) (L := [.ref 15, .ref 20, .int x2, .int x3, .int x4, .null]) (st := []) (w := w) rfl h1).trans <|
    (runs_stps (q' := (49, [.null, .null, .int x2, .null, .null, .null], [.int x2], w)) 1 rfl).trans <|
    runs_ret rfl
  · exact (runs_stps (q' := (13, [.ref 15, .ref 27, .int x2, .int x3, .int x4, .null], [.int 3, .int x4], w)) 2 rfl).trans <|
    (runs_if_t (a := 48) (b := 16) (L := [.ref 15, .ref 27, .int x2, .int x3, .int x4, .null]) (st := []) (w := w) rfl h1).trans <|
    (runs_stps (q' := (49, [.null, .null, .int x2, .null, .null, .null], [.int x2], w)) 1 rfl).trans <|
    runs_ret rfl
theorem p_X1_bestToLift_10FT_L10 {ex : Ex} {p : Nat} {x2 : Int32} {x3 : Int32} {x4 : Int32} {v5 : Value} {r1 : Int32} {w1 : Wd} {w : Wd} (hp : scp p) (h1 : ¬ 3 < x4) (h2 : ex 8 [.ref 15, .ref p, .int x4] w = some (some (.int r1), w1)) (h3 : r1 ≤ 0) : runs (T_X1_bestToLift ex) (10, [.ref 15, .ref p, .int x2, .int x3, .int x4, v5], [], w) = runs (T_X1_bestToLift ex) (10, [.ref 15, .ref p, .int x2, .int x3, .int (x4 + 1), .null], [], w1) := by
  rcases hp with rfl | rfl
  · exact (runs_stps (q' := (13, [.ref 15, .ref 20, .int x2, .int x3, .int x4, .null], [.int 3, .int x4], w)) 2 rfl).trans <|
    (runs_if_f (a := 48) (b := 16) (L := [.ref 15, .ref 20, .int x2, .int x3, .int x4, .null]) (st := []) (w := w) rfl h1).trans <|
    (runs_stps (q' := (20, [.ref 15, .ref 20, .int x2, .int x3, .int x4, .null], [.int x4, .ref 20, .ref 15], w)) 3 rfl).trans <|
    (runs_callV (rv := some (.int r1)) (w' := w1) rfl rfl rfl rfl h2).trans <|
    (runs_stps (q' := (27, [.ref 15, .ref 20, .int x2, .int x3, .int x4, .int r1], [.int r1], w1)) 2 rfl).trans <|
    (runs_if_t (a := 42) (b := 30) (L := [.ref 15, .ref 20, .int x2, .int x3, .int x4, .int r1]) (st := []) (w := w1) rfl h3).trans <|
    (runs_stps (q' := (10, [.ref 15, .ref 20, .int x2, .int x3, .int (x4 + 1), .null], [], w1)) 2 rfl).trans <|
    rfl
  · exact (runs_stps (q' := (13, [.ref 15, .ref 27, .int x2, .int x3, .int x4, .null], [.int 3, .int x4], w)) 2 rfl).trans <|
    (runs_if_f (a := 48) (b := 16) (L := [.ref 15, .ref 27, .int x2, .int x3, .int x4, .null]) (st := []) (w := w) rfl h1).trans <|
    (runs_stps (q' := (20, [.ref 15, .ref 27, .int x2, .int x3, .int x4, .null], [.int x4, .ref 27, .ref 15], w)) 3 rfl).trans <|
    (runs_callV (rv := some (.int r1)) (w' := w1) rfl rfl rfl rfl h2).trans <|
    (runs_stps (q' := (27, [.ref 15, .ref 27, .int x2, .int x3, .int x4, .int r1], [.int r1], w1)) 2 rfl).trans <|
    (runs_if_t (a := 42) (b := 30) (L := [.ref 15, .ref 27, .int x2, .int x3, .int x4, .int r1]) (st := []) (w := w1) rfl h3).trans <|
    (runs_stps (q' := (10, [.ref 15, .ref 27, .int x2, .int x3, .int (x4 + 1), .null], [], w1)) 2 rfl).trans <|
    rfl
theorem p_X1_bestToLift_10FFT_L10 {ex : Ex} {p : Nat} {x2 : Int32} {x3 : Int32} {x4 : Int32} {v5 : Value} {r1 : Int32} {w1 : Wd} {w : Wd} (hp : scp p) (h1 : ¬ 3 < x4) (h2 : ex 8 [.ref 15, .ref p, .int x4] w = some (some (.int r1), w1)) (h3 : ¬ r1 ≤ 0) (h4 : x3 ≤ r1) : runs (T_X1_bestToLift ex) (10, [.ref 15, .ref p, .int x2, .int x3, .int x4, v5], [], w) = runs (T_X1_bestToLift ex) (10, [.ref 15, .ref p, .int x2, .int x3, .int (x4 + 1), .null], [], w1) := by
  rcases hp with rfl | rfl
  · exact (runs_stps (q' := (13, [.ref 15, .ref 20, .int x2, .int x3, .int x4, .null], [.int 3, .int x4], w)) 2 rfl).trans <|
    (runs_if_f (a := 48) (b := 16) (L := [.ref 15, .ref 20, .int x2, .int x3, .int x4, .null]) (st := []) (w := w) rfl h1).trans <|
    (runs_stps (q' := (20, [.ref 15, .ref 20, .int x2, .int x3, .int x4, .null], [.int x4, .ref 20, .ref 15], w)) 3 rfl).trans <|
    (runs_callV (rv := some (.int r1)) (w' := w1) rfl rfl rfl rfl h2).trans <|
    (runs_stps (q' := (27, [.ref 15, .ref 20, .int x2, .int x3, .int x4, .int r1], [.int r1], w1)) 2 rfl).trans <|
    (runs_if_f (a := 42) (b := 30) (L := [.ref 15, .ref 20, .int x2, .int x3, .int x4, .int r1]) (st := []) (w := w1) rfl h3).trans <|
    (runs_stps (q' := (33, [.ref 15, .ref 20, .int x2, .int x3, .int x4, .int r1], [.int x3, .int r1], w1)) 2 rfl).trans <|
    (runs_if_t (a := 42) (b := 36) (L := [.ref 15, .ref 20, .int x2, .int x3, .int x4, .int r1]) (st := []) (w := w1) rfl h4).trans <|
    (runs_stps (q' := (10, [.ref 15, .ref 20, .int x2, .int x3, .int (x4 + 1), .null], [], w1)) 2 rfl).trans <|
    rfl
  · exact (runs_stps (q' := (13, [.ref 15, .ref 27, .int x2, .int x3, .int x4, .null], [.int 3, .int x4], w)) 2 rfl).trans <|
    (runs_if_f (a := 48) (b := 16) (L := [.ref 15, .ref 27, .int x2, .int x3, .int x4, .null]) (st := []) (w := w) rfl h1).trans <|
    (runs_stps (q' := (20, [.ref 15, .ref 27, .int x2, .int x3, .int x4, .null], [.int x4, .ref 27, .ref 15], w)) 3 rfl).trans <|
    (runs_callV (rv := some (.int r1)) (w' := w1) rfl rfl rfl rfl h2).trans <|
    (runs_stps (q' := (27, [.ref 15, .ref 27, .int x2, .int x3, .int x4, .int r1], [.int r1], w1)) 2 rfl).trans <|
    (runs_if_f (a := 42) (b := 30) (L := [.ref 15, .ref 27, .int x2, .int x3, .int x4, .int r1]) (st := []) (w := w1) rfl h3).trans <|
    (runs_stps (q' := (33, [.ref 15, .ref 27, .int x2, .int x3, .int x4, .int r1], [.int x3, .int r1], w1)) 2 rfl).trans <|
    (runs_if_t (a := 42) (b := 36) (L := [.ref 15, .ref 27, .int x2, .int x3, .int x4, .int r1]) (st := []) (w := w1) rfl h4).trans <|
    (runs_stps (q' := (10, [.ref 15, .ref 27, .int x2, .int x3, .int (x4 + 1), .null], [], w1)) 2 rfl).trans <|
    rfl
theorem p_X1_bestToLift_10FFF_L10 {ex : Ex} {p : Nat} {x2 : Int32} {x3 : Int32} {x4 : Int32} {v5 : Value} {r1 : Int32} {w1 : Wd} {w : Wd} (hp : scp p) (h1 : ¬ 3 < x4) (h2 : ex 8 [.ref 15, .ref p, .int x4] w = some (some (.int r1), w1)) (h3 : ¬ r1 ≤ 0) (h4 : ¬ x3 ≤ r1) : runs (T_X1_bestToLift ex) (10, [.ref 15, .ref p, .int x2, .int x3, .int x4, v5], [], w) = runs (T_X1_bestToLift ex) (10, [.ref 15, .ref p, .int x4, .int r1, .int (x4 + 1), .null], [], w1) := by
  rcases hp with rfl | rfl
  · exact (runs_stps (q' := (13, [.ref 15, .ref 20, .int x2, .int x3, .int x4, .null], [.int 3, .int x4], w)) 2 rfl).trans <|
    (runs_if_f (a := 48) (b := 16) (L := [.ref 15, .ref 20, .int x2, .int x3, .int x4, .null]) (st := []) (w := w) rfl h1).trans <|
    (runs_stps (q' := (20, [.ref 15, .ref 20, .int x2, .int x3, .int x4, .null], [.int x4, .ref 20, .ref 15], w)) 3 rfl).trans <|
    (runs_callV (rv := some (.int r1)) (w' := w1) rfl rfl rfl rfl h2).trans <|
    (runs_stps (q' := (27, [.ref 15, .ref 20, .int x2, .int x3, .int x4, .int r1], [.int r1], w1)) 2 rfl).trans <|
    (runs_if_f (a := 42) (b := 30) (L := [.ref 15, .ref 20, .int x2, .int x3, .int x4, .int r1]) (st := []) (w := w1) rfl h3).trans <|
    (runs_stps (q' := (33, [.ref 15, .ref 20, .int x2, .int x3, .int x4, .int r1], [.int x3, .int r1], w1)) 2 rfl).trans <|
    (runs_if_f (a := 42) (b := 36) (L := [.ref 15, .ref 20, .int x2, .int x3, .int x4, .int r1]) (st := []) (w := w1) rfl h4).trans <|
    (runs_stps (q' := (10, [.ref 15, .ref 20, .int x4, .int r1, .int (x4 + 1), .null], [], w1)) 6 rfl).trans <|
    rfl
  · exact (runs_stps (q' := (13, [.ref 15, .ref 27, .int x2, .int x3, .int x4, .null], [.int 3, .int x4], w)) 2 rfl).trans <|
    (runs_if_f (a := 48) (b := 16) (L := [.ref 15, .ref 27, .int x2, .int x3, .int x4, .null]) (st := []) (w := w) rfl h1).trans <|
    (runs_stps (q' := (20, [.ref 15, .ref 27, .int x2, .int x3, .int x4, .null], [.int x4, .ref 27, .ref 15], w)) 3 rfl).trans <|
    (runs_callV (rv := some (.int r1)) (w' := w1) rfl rfl rfl rfl h2).trans <|
    (runs_stps (q' := (27, [.ref 15, .ref 27, .int x2, .int x3, .int x4, .int r1], [.int r1], w1)) 2 rfl).trans <|
    (runs_if_f (a := 42) (b := 30) (L := [.ref 15, .ref 27, .int x2, .int x3, .int x4, .int r1]) (st := []) (w := w1) rfl h3).trans <|
    (runs_stps (q' := (33, [.ref 15, .ref 27, .int x2, .int x3, .int x4, .int r1], [.int x3, .int r1], w1)) 2 rfl).trans <|
    (runs_if_f (a := 42) (b := 36) (L := [.ref 15, .ref 27, .int x2, .int x3, .int x4, .int r1]) (st := []) (w := w1) rfl h4).trans <|
    (runs_stps (q' := (10, [.ref 15, .ref 27, .int x4, .int r1, .int (x4 + 1), .null], [], w1)) 6 rfl).trans <|
    rfl
theorem p_X1_mostLeft_0_L13 {ex : Ex} {p : Nat} {x2 : Int32} {w1 : Wd} {w : Wd} (hp : scp p) (h1 : ex 205 [.ref 18, .int 0] w = some (none, w1)) : runs (T_X1_mostLeft ex) (0, [.ref 15, .ref p, .int x2, .null, .null, .null], [], w) = runs (T_X1_mostLeft ex) (13, [.ref 15, .ref p, .int x2, .int 0, .int 0, .null], [], w1) := by
  rcases hp with rfl | rfl
  · exact (runs_stps (q' := (5, [.ref 15, .ref 20, .int x2, .null, .null, .null], [.int 0, .ref 18], w)) 3 rfl).trans <|
    (runs_callS (rv := none) (w' := w1) rfl rfl rfl h1).trans <|
    (runs_stps (q' := (13, [.ref 15, .ref 20, .int x2, .int 0, .int 0, .null], [], w1)) 4 rfl).trans <|
    rfl
  · exact (runs_stps (q' := (5, [.ref 15, .ref 27, .int x2, .null, .null, .null], [.int 0, .ref 18], w)) 3 rfl).trans <|
    (runs_callS (rv := none) (w' := w1) rfl rfl rfl h1).trans <|
    (runs_stps (q' := (13, [.ref 15, .ref 27, .int x2, .int 0, .int 0, .null], [], w1)) 4 rfl).trans <|
    rfl
theorem p_X1_mostLeft_13T_R {ex : Ex} {p : Nat} {x2 : Int32} {x3 : Int32} {x4 : Int32} {v5 : Value} {w : Wd} (hp : scp p) (h1 : 156 ≤ x4) : runs (T_X1_mostLeft ex) (13, [.ref 15, .ref p, .int x2, .int x3, .int x4, v5], [], w) = some (some (.int x3), w) := by
  rcases hp with rfl | rfl
  · exact (runs_stps (q' := (18, [.ref 15, .ref 20, .int x2, .int x3, .int x4, .null], [.int 156, .int x4], w)) 2 rfl).trans <|
    (runs_if_t (a := 80) (b := 21) (L := [.ref 15, .ref 20, .int x2, .int x3, .int x4, .null]) (st := []) (w := w) rfl h1).trans <|
    (runs_stps (q' := (81, [.null, .null, .null, .int x3, .null, .null], [.int x3], w)) 1 rfl).trans <|
    runs_ret rfl
  · exact (runs_stps (q' := (18, [.ref 15, .ref 27, .int x2, .int x3, .int x4, .null], [.int 156, .int x4], w)) 2 rfl).trans <|
    (runs_if_t (a := 80) (b := 21) (L := [.ref 15, .ref 27, .int x2, .int x3, .int x4, .null]) (st := []) (w := w) rfl h1).trans <|
    (runs_stps (q' := (81, [.null, .null, .null, .int x3, .null, .null], [.int x3], w)) 1 rfl).trans <|
    runs_ret rfl
theorem p_X1_mostLeft_13FT_L13 {ex : Ex} {p : Nat} {x2 : Int32} {x3 : Int32} {x4 : Int32} {v5 : Value} {r1 : Int32} {w1 : Wd} {w : Wd} (hp : scp p) (h1 : ¬ 156 ≤ x4) (h2 : ex 9 [.ref 15, .ref p, .int x4] w = some (some (.int r1), w1)) (h3 : r1 = 0) : runs (T_X1_mostLeft ex) (13, [.ref 15, .ref p, .int x2, .int x3, .int x4, v5], [], w) = runs (T_X1_mostLeft ex) (13, [.ref 15, .ref p, .int x2, .int x3, .int (x4 + 1), .null], [], w1) := by
  rcases hp with rfl | rfl
  · exact (runs_stps (q' := (18, [.ref 15, .ref 20, .int x2, .int x3, .int x4, .null], [.int 156, .int x4], w)) 2 rfl).trans <|
    (runs_if_f (a := 80) (b := 21) (L := [.ref 15, .ref 20, .int x2, .int x3, .int x4, .null]) (st := []) (w := w) rfl h1).trans <|
    (runs_stps (q' := (25, [.ref 15, .ref 20, .int x2, .int x3, .int x4, .null], [.int x4, .ref 20, .ref 15], w)) 3 rfl).trans <|
    (runs_callV (rv := some (.int r1)) (w' := w1) rfl rfl rfl rfl h2).trans <|
    (runs_if_t (a := 74) (b := 31) (L := [.ref 15, .ref 20, .int x2, .int x3, .int x4, .null]) (st := []) (w := w1) rfl h3).trans <|
    (runs_stps (q' := (13, [.ref 15, .ref 20, .int x2, .int x3, .int (x4 + 1), .null], [], w1)) 2 rfl).trans <|
    rfl
  · exact (runs_stps (q' := (18, [.ref 15, .ref 27, .int x2, .int x3, .int x4, .null], [.int 156, .int x4], w)) 2 rfl).trans <|
    (runs_if_f (a := 80) (b := 21) (L := [.ref 15, .ref 27, .int x2, .int x3, .int x4, .null]) (st := []) (w := w) rfl h1).trans <|
    (runs_stps (q' := (25, [.ref 15, .ref 27, .int x2, .int x3, .int x4, .null], [.int x4, .ref 27, .ref 15], w)) 3 rfl).trans <|
    (runs_callV (rv := some (.int r1)) (w' := w1) rfl rfl rfl rfl h2).trans <|
    (runs_if_t (a := 74) (b := 31) (L := [.ref 15, .ref 27, .int x2, .int x3, .int x4, .null]) (st := []) (w := w1) rfl h3).trans <|
    (runs_stps (q' := (13, [.ref 15, .ref 27, .int x2, .int x3, .int (x4 + 1), .null], [], w1)) 2 rfl).trans <|
    rfl
theorem p_X1_mostLeft_13FF_L13 {ex : Ex} {p : Nat} {x2 : Int32} {x3 : Int32} {x4 : Int32} {v5 : Value} {r1 : Int32} {w1 : Wd} {r2 : Int32} {w2 : Wd} {r3 : Int32} {w3 : Wd} {w4 : Wd} {r5 : Int32} {w5 : Wd} {w : Wd} (hp : scp p) (h1 : ¬ 156 ≤ x4) (h2 : ex 9 [.ref 15, .ref p, .int x4] w = some (some (.int r1), w1)) (h3 : ¬ r1 = 0) (h4 : ex 10 [.ref p, .int x4, .int x2] w1 = some (some (.int r2), w2)) (h5 : ex 133 [.ref 18, .int r2] w2 = some (some (.int r3), w3)) (h6 : ex 134 [.ref 18, .int r2, .int (r3 + 1)] w3 = some (none, w4)) (h7 : ex 133 [.ref 18, .int r2] w4 = some (some (.int r5), w5)) : runs (T_X1_mostLeft ex) (13, [.ref 15, .ref p, .int x2, .int x3, .int x4, v5], [], w) = runs (T_X1_mostLeft ex) (13, [.ref 15, .ref p, .int x2, .int (if x3 < r5 then r5 else x3), .int (x4 + 1), .null], [], w5) := by
  rcases hp with rfl | rfl
  · exact (runs_stps (q' := (18, [.ref 15, .ref 20, .int x2, .int x3, .int x4, .null], [.int 156, .int x4], w)) 2 rfl).trans <|
    (runs_if_f (a := 80) (b := 21) (L := [.ref 15, .ref 20, .int x2, .int x3, .int x4, .null]) (st := []) (w := w) rfl h1).trans <|
    (runs_stps (q' := (25, [.ref 15, .ref 20, .int x2, .int x3, .int x4, .null], [.int x4, .ref 20, .ref 15], w)) 3 rfl).trans <|
    (runs_callV (rv := some (.int r1)) (w' := w1) rfl rfl rfl rfl h2).trans <|
    (runs_if_f (a := 74) (b := 31) (L := [.ref 15, .ref 20, .int x2, .int x3, .int x4, .null]) (st := []) (w := w1) rfl h3).trans <|
    (runs_stps (q' := (35, [.ref 15, .ref 20, .int x2, .int x3, .int x4, .null], [.int x2, .int x4, .ref 20], w1)) 3 rfl).trans <|
    (runs_callS (rv := some (.int r2)) (w' := w2) rfl rfl rfl h4).trans <|
    (runs_stps (q' := (52, [.ref 15, .ref 20, .int x2, .int x3, .int x4, .int r2], [.int r2, .ref 18, .int r2, .ref 18], w2)) 7 rfl).trans <|
    (runs_callS (rv := some (.int r3)) (w' := w3) rfl rfl rfl h5).trans <|
    (runs_stps (q' := (57, [.ref 15, .ref 20, .int x2, .int x3, .int x4, .int r2], [.int (r3 + 1), .int r2, .ref 18], w3)) 2 rfl).trans <|
    (runs_callS (rv := none) (w' := w4) rfl rfl rfl h6).trans <|
    (runs_stps (q' := (67, [.ref 15, .ref 20, .int x2, .int x3, .int x4, .int r2], [.int r2, .ref 18, .int x3], w4)) 4 rfl).trans <|
    (runs_callS (rv := some (.int r5)) (w' := w5) rfl rfl rfl h7).trans <|
    (runs_stps (q' := (13, [.ref 15, .ref 20, .int x2, .int (if x3 < r5 then r5 else x3), .int (x4 + 1), .null], [], w5)) 4 rfl).trans <|
    rfl
  · exact (runs_stps (q' := (18, [.ref 15, .ref 27, .int x2, .int x3, .int x4, .null], [.int 156, .int x4], w)) 2 rfl).trans <|
    (runs_if_f (a := 80) (b := 21) (L := [.ref 15, .ref 27, .int x2, .int x3, .int x4, .null]) (st := []) (w := w) rfl h1).trans <|
    (runs_stps (q' := (25, [.ref 15, .ref 27, .int x2, .int x3, .int x4, .null], [.int x4, .ref 27, .ref 15], w)) 3 rfl).trans <|
    (runs_callV (rv := some (.int r1)) (w' := w1) rfl rfl rfl rfl h2).trans <|
    (runs_if_f (a := 74) (b := 31) (L := [.ref 15, .ref 27, .int x2, .int x3, .int x4, .null]) (st := []) (w := w1) rfl h3).trans <|
    (runs_stps (q' := (35, [.ref 15, .ref 27, .int x2, .int x3, .int x4, .null], [.int x2, .int x4, .ref 27], w1)) 3 rfl).trans <|
    (runs_callS (rv := some (.int r2)) (w' := w2) rfl rfl rfl h4).trans <|
    (runs_stps (q' := (52, [.ref 15, .ref 27, .int x2, .int x3, .int x4, .int r2], [.int r2, .ref 18, .int r2, .ref 18], w2)) 7 rfl).trans <|
    (runs_callS (rv := some (.int r3)) (w' := w3) rfl rfl rfl h5).trans <|
    (runs_stps (q' := (57, [.ref 15, .ref 27, .int x2, .int x3, .int x4, .int r2], [.int (r3 + 1), .int r2, .ref 18], w3)) 2 rfl).trans <|
    (runs_callS (rv := none) (w' := w4) rfl rfl rfl h6).trans <|
    (runs_stps (q' := (67, [.ref 15, .ref 27, .int x2, .int x3, .int x4, .int r2], [.int r2, .ref 18, .int x3], w4)) 4 rfl).trans <|
    (runs_callS (rv := some (.int r5)) (w' := w5) rfl rfl rfl h7).trans <|
    (runs_stps (q' := (13, [.ref 15, .ref 27, .int x2, .int (if x3 < r5 then r5 else x3), .int (x4 + 1), .null], [], w5)) 4 rfl).trans <|
    rfl
theorem p_X1_canBe_0T_L12 {ex : Ex} {p : Nat} {x2 : Int32} {r1 : Int32} {w1 : Wd} {w : Wd} (hp : scp p) (h1 : ex 74 [.ref p, .int x2] w = some (some (.int r1), w1)) (h2 : ¬ r1 = 0) : runs (T_X1_canBe ex) (0, [.ref 15, .ref p, .int x2, .null], [], w) = runs (T_X1_canBe ex) (12, [.ref 15, .ref p, .int x2, .int 0], [], w1) := by
  rcases hp with rfl | rfl
  · exact (runs_stps (q' := (2, [.ref 15, .ref 20, .int x2, .null], [.int x2, .ref 20], w)) 2 rfl).trans <|
    (runs_callV (rv := some (.int r1)) (w' := w1) rfl rfl rfl rfl h1).trans <|
    (runs_if_f (a := 8) (b := 10) (L := [.ref 15, .ref 20, .int x2, .null]) (st := []) (w := w1) rfl h2).trans <|
    (runs_stps (q' := (12, [.ref 15, .ref 20, .int x2, .int 0], [], w1)) 2 rfl).trans <|
    rfl
  · exact (runs_stps (q' := (2, [.ref 15, .ref 27, .int x2, .null], [.int x2, .ref 27], w)) 2 rfl).trans <|
    (runs_callV (rv := some (.int r1)) (w' := w1) rfl rfl rfl rfl h1).trans <|
    (runs_if_f (a := 8) (b := 10) (L := [.ref 15, .ref 27, .int x2, .null]) (st := []) (w := w1) rfl h2).trans <|
    (runs_stps (q' := (12, [.ref 15, .ref 27, .int x2, .int 0], [], w1)) 2 rfl).trans <|
    rfl
theorem p_X1_canBe_0F_R {ex : Ex} {p : Nat} {x2 : Int32} {r1 : Int32} {w1 : Wd} {w : Wd} (hp : scp p) (h1 : ex 74 [.ref p, .int x2] w = some (some (.int r1), w1)) (h2 : r1 = 0) : runs (T_X1_canBe ex) (0, [.ref 15, .ref p, .int x2, .null], [], w) = some (some (.int 0), w1) := by
  rcases hp with rfl | rfl
  · exact (runs_stps (q' := (2, [.ref 15, .ref 20, .int x2, .null], [.int x2, .ref 20], w)) 2 rfl).trans <|
    (runs_callV (rv := some (.int r1)) (w' := w1) rfl rfl rfl rfl h1).trans <|
    (runs_if_t (a := 8) (b := 10) (L := [.ref 15, .ref 20, .int x2, .null]) (st := []) (w := w1) rfl h2).trans <|
    (runs_stps (q' := (9, [.ref 15, .ref 20, .int x2, .null], [.int 0], w1)) 1 rfl).trans <|
    runs_ret rfl
  · exact (runs_stps (q' := (2, [.ref 15, .ref 27, .int x2, .null], [.int x2, .ref 27], w)) 2 rfl).trans <|
    (runs_callV (rv := some (.int r1)) (w' := w1) rfl rfl rfl rfl h1).trans <|
    (runs_if_t (a := 8) (b := 10) (L := [.ref 15, .ref 27, .int x2, .null]) (st := []) (w := w1) rfl h2).trans <|
    (runs_stps (q' := (9, [.ref 15, .ref 27, .int x2, .null], [.int 0], w1)) 1 rfl).trans <|
    runs_ret rfl
theorem p_X1_canBe_12T_R {ex : Ex} {p : Nat} {x2 : Int32} {x3 : Int32} {w : Wd} (hp : scp p) (h1 : (w.1 15 2) ≤ x3) : runs (T_X1_canBe ex) (12, [.ref 15, .ref p, .int x2, .int x3], [], w) = some (some (.int 1), w) := by
  rcases hp with rfl | rfl
  · exact (runs_stps (q' := (17, [.ref 15, .ref 20, .int x2, .int x3], [.int (w.1 15 2), .int x3], w)) 3 rfl).trans <|
    (runs_if_t (a := 52) (b := 20) (L := [.ref 15, .ref 20, .int x2, .int x3]) (st := []) (w := w) rfl h1).trans <|
    (runs_stps (q' := (53, [.null, .null, .null, .null], [.int 1], w)) 1 rfl).trans <|
    runs_ret rfl
  · exact (runs_stps (q' := (17, [.ref 15, .ref 27, .int x2, .int x3], [.int (w.1 15 2), .int x3], w)) 3 rfl).trans <|
    (runs_if_t (a := 52) (b := 20) (L := [.ref 15, .ref 27, .int x2, .int x3]) (st := []) (w := w) rfl h1).trans <|
    (runs_stps (q' := (53, [.null, .null, .null, .null], [.int 1], w)) 1 rfl).trans <|
    runs_ret rfl
theorem p_X1_canBe_12FT_L12 {ex : Ex} {p : Nat} {x2 : Int32} {x3 : Int32} {r1 : Int32} {w1 : Wd} {r2 : Int32} {w2 : Wd} {r3 : Int32} {w3 : Wd} {w : Wd} (hp : scp p) (h1 : ¬ (w.1 15 2) ≤ x3) (h2 : ex 133 [.ref 16, .int x3] w = some (some (.int r1), w1)) (h3 : ex 10 [.ref p, .int x2, .int r1] w1 = some (some (.int r2), w2)) (h4 : ex 133 [.ref 17, .int x3] w2 = some (some (.int r3), w3)) (h5 : r2 = r3) : runs (T_X1_canBe ex) (12, [.ref 15, .ref p, .int x2, .int x3], [], w) = runs (T_X1_canBe ex) (12, [.ref 15, .ref p, .int x2, .int (x3 + 1)], [], w3) := by
  rcases hp with rfl | rfl
  · exact (runs_stps (q' := (17, [.ref 15, .ref 20, .int x2, .int x3], [.int (w.1 15 2), .int x3], w)) 3 rfl).trans <|
    (runs_if_f (a := 52) (b := 20) (L := [.ref 15, .ref 20, .int x2, .int x3]) (st := []) (w := w) rfl h1).trans <|
    (runs_stps (q' := (27, [.ref 15, .ref 20, .int x2, .int x3], [.int x3, .ref 16, .int x2, .ref 20], w)) 5 rfl).trans <|
    (runs_callS (rv := some (.int r1)) (w' := w1) rfl rfl rfl h2).trans <|
    (runs_callS (rv := some (.int r2)) (w' := w2) rfl rfl rfl h3).trans <|
    (runs_stps (q' := (38, [.ref 15, .ref 20, .int x2, .int x3], [.int x3, .ref 17, .int r2], w2)) 3 rfl).trans <|
    (runs_callS (rv := some (.int r3)) (w' := w3) rfl rfl rfl h4).trans <|
    (runs_if_t (a := 46) (b := 44) (L := [.ref 15, .ref 20, .int x2, .int x3]) (st := []) (w := w3) rfl h5).trans <|
    (runs_stps (q' := (12, [.ref 15, .ref 20, .int x2, .int (x3 + 1)], [], w3)) 2 rfl).trans <|
    rfl
  · exact (runs_stps (q' := (17, [.ref 15, .ref 27, .int x2, .int x3], [.int (w.1 15 2), .int x3], w)) 3 rfl).trans <|
    (runs_if_f (a := 52) (b := 20) (L := [.ref 15, .ref 27, .int x2, .int x3]) (st := []) (w := w) rfl h1).trans <|
    (runs_stps (q' := (27, [.ref 15, .ref 27, .int x2, .int x3], [.int x3, .ref 16, .int x2, .ref 27], w)) 5 rfl).trans <|
    (runs_callS (rv := some (.int r1)) (w' := w1) rfl rfl rfl h2).trans <|
    (runs_callS (rv := some (.int r2)) (w' := w2) rfl rfl rfl h3).trans <|
    (runs_stps (q' := (38, [.ref 15, .ref 27, .int x2, .int x3], [.int x3, .ref 17, .int r2], w2)) 3 rfl).trans <|
    (runs_callS (rv := some (.int r3)) (w' := w3) rfl rfl rfl h4).trans <|
    (runs_if_t (a := 46) (b := 44) (L := [.ref 15, .ref 27, .int x2, .int x3]) (st := []) (w := w3) rfl h5).trans <|
    (runs_stps (q' := (12, [.ref 15, .ref 27, .int x2, .int (x3 + 1)], [], w3)) 2 rfl).trans <|
    rfl
theorem p_X1_canBe_12FF_R {ex : Ex} {p : Nat} {x2 : Int32} {x3 : Int32} {r1 : Int32} {w1 : Wd} {r2 : Int32} {w2 : Wd} {r3 : Int32} {w3 : Wd} {w : Wd} (hp : scp p) (h1 : ¬ (w.1 15 2) ≤ x3) (h2 : ex 133 [.ref 16, .int x3] w = some (some (.int r1), w1)) (h3 : ex 10 [.ref p, .int x2, .int r1] w1 = some (some (.int r2), w2)) (h4 : ex 133 [.ref 17, .int x3] w2 = some (some (.int r3), w3)) (h5 : ¬ r2 = r3) : runs (T_X1_canBe ex) (12, [.ref 15, .ref p, .int x2, .int x3], [], w) = some (some (.int 0), w3) := by
  rcases hp with rfl | rfl
  · exact (runs_stps (q' := (17, [.ref 15, .ref 20, .int x2, .int x3], [.int (w.1 15 2), .int x3], w)) 3 rfl).trans <|
    (runs_if_f (a := 52) (b := 20) (L := [.ref 15, .ref 20, .int x2, .int x3]) (st := []) (w := w) rfl h1).trans <|
    (runs_stps (q' := (27, [.ref 15, .ref 20, .int x2, .int x3], [.int x3, .ref 16, .int x2, .ref 20], w)) 5 rfl).trans <|
    (runs_callS (rv := some (.int r1)) (w' := w1) rfl rfl rfl h2).trans <|
    (runs_callS (rv := some (.int r2)) (w' := w2) rfl rfl rfl h3).trans <|
    (runs_stps (q' := (38, [.ref 15, .ref 20, .int x2, .int x3], [.int x3, .ref 17, .int r2], w2)) 3 rfl).trans <|
    (runs_callS (rv := some (.int r3)) (w' := w3) rfl rfl rfl h4).trans <|
    (runs_if_f (a := 46) (b := 44) (L := [.ref 15, .ref 20, .int x2, .int x3]) (st := []) (w := w3) rfl h5).trans <|
    (runs_stps (q' := (45, [.ref 15, .ref 20, .int x2, .int x3], [.int 0], w3)) 1 rfl).trans <|
    runs_ret rfl
  · exact (runs_stps (q' := (17, [.ref 15, .ref 27, .int x2, .int x3], [.int (w.1 15 2), .int x3], w)) 3 rfl).trans <|
    (runs_if_f (a := 52) (b := 20) (L := [.ref 15, .ref 27, .int x2, .int x3]) (st := []) (w := w) rfl h1).trans <|
    (runs_stps (q' := (27, [.ref 15, .ref 27, .int x2, .int x3], [.int x3, .ref 16, .int x2, .ref 27], w)) 5 rfl).trans <|
    (runs_callS (rv := some (.int r1)) (w' := w1) rfl rfl rfl h2).trans <|
    (runs_callS (rv := some (.int r2)) (w' := w2) rfl rfl rfl h3).trans <|
    (runs_stps (q' := (38, [.ref 15, .ref 27, .int x2, .int x3], [.int x3, .ref 17, .int r2], w2)) 3 rfl).trans <|
    (runs_callS (rv := some (.int r3)) (w' := w3) rfl rfl rfl h4).trans <|
    (runs_if_f (a := 46) (b := 44) (L := [.ref 15, .ref 27, .int x2, .int x3]) (st := []) (w := w3) rfl h5).trans <|
    (runs_stps (q' := (45, [.ref 15, .ref 27, .int x2, .int x3], [.int 0], w3)) 1 rfl).trans <|
    runs_ret rfl
theorem p_X1_answerOf_0T_R {ex : Ex} {p : Nat} {x1 : Int32} {x2 : Int32} {r1 : Int32} {w1 : Wd} {r2 : Int32} {w2 : Wd} {r3 : Int32} {w3 : Wd} {w : Wd} (hp : scp p) (h1 : ex 45 [.int x1] w = some (some (.int r1), w1)) (h2 : x2 ≤ r1) (h3 : ex 42 [.int x1, .int x2] w1 = some (some (.int r2), w2)) (h4 : ex 75 [.ref p, .int r2] w2 = some (some (.int r3), w3)) : runs (T_X1_answerOf ex) (0, [.ref p, .int x1, .int x2], [], w) = some (some (.int r3), w3) := by
  rcases hp with rfl | rfl
  · exact (runs_stps (q' := (1, [.ref 20, .int x1, .int x2], [.int x1], w)) 1 rfl).trans <|
    (runs_callS (rv := some (.int r1)) (w' := w1) rfl rfl rfl h1).trans <|
    (runs_stps (q' := (5, [.ref 20, .int x1, .int x2], [.int x2, .int r1], w1)) 1 rfl).trans <|
    (runs_if_t (a := 14) (b := 8) (L := [.ref 20, .int x1, .int x2]) (st := []) (w := w1) rfl h2).trans <|
    (runs_stps (q' := (17, [.ref 20, .int x1, .int x2], [.int x2, .int x1, .ref 20], w1)) 3 rfl).trans <|
    (runs_callS (rv := some (.int r2)) (w' := w2) rfl rfl rfl h3).trans <|
    (runs_callV (rv := some (.int r3)) (w' := w3) rfl rfl rfl rfl h4).trans <|
    runs_ret rfl
  · exact (runs_stps (q' := (1, [.ref 27, .int x1, .int x2], [.int x1], w)) 1 rfl).trans <|
    (runs_callS (rv := some (.int r1)) (w' := w1) rfl rfl rfl h1).trans <|
    (runs_stps (q' := (5, [.ref 27, .int x1, .int x2], [.int x2, .int r1], w1)) 1 rfl).trans <|
    (runs_if_t (a := 14) (b := 8) (L := [.ref 27, .int x1, .int x2]) (st := []) (w := w1) rfl h2).trans <|
    (runs_stps (q' := (17, [.ref 27, .int x1, .int x2], [.int x2, .int x1, .ref 27], w1)) 3 rfl).trans <|
    (runs_callS (rv := some (.int r2)) (w' := w2) rfl rfl rfl h3).trans <|
    (runs_callV (rv := some (.int r3)) (w' := w3) rfl rfl rfl rfl h4).trans <|
    runs_ret rfl
theorem p_X1_answerOf_0F_R {ex : Ex} {p : Nat} {x1 : Int32} {x2 : Int32} {r1 : Int32} {w1 : Wd} {w : Wd} (hp : scp p) (h1 : ex 45 [.int x1] w = some (some (.int r1), w1)) (h2 : ¬ x2 ≤ r1) : runs (T_X1_answerOf ex) (0, [.ref p, .int x1, .int x2], [], w) = some (some (.int 1024), w1) := by
  rcases hp with rfl | rfl
  · exact (runs_stps (q' := (1, [.ref 20, .int x1, .int x2], [.int x1], w)) 1 rfl).trans <|
    (runs_callS (rv := some (.int r1)) (w' := w1) rfl rfl rfl h1).trans <|
    (runs_stps (q' := (5, [.ref 20, .int x1, .int x2], [.int x2, .int r1], w1)) 1 rfl).trans <|
    (runs_if_f (a := 14) (b := 8) (L := [.ref 20, .int x1, .int x2]) (st := []) (w := w1) rfl h2).trans <|
    (runs_stps (q' := (23, [.ref 20, .int x1, .int x2], [.int 1024], w1)) 2 rfl).trans <|
    runs_ret rfl
  · exact (runs_stps (q' := (1, [.ref 27, .int x1, .int x2], [.int x1], w)) 1 rfl).trans <|
    (runs_callS (rv := some (.int r1)) (w' := w1) rfl rfl rfl h1).trans <|
    (runs_stps (q' := (5, [.ref 27, .int x1, .int x2], [.int x2, .int r1], w1)) 1 rfl).trans <|
    (runs_if_f (a := 14) (b := 8) (L := [.ref 27, .int x1, .int x2]) (st := []) (w := w1) rfl h2).trans <|
    (runs_stps (q' := (23, [.ref 27, .int x1, .int x2], [.int 1024], w1)) 2 rfl).trans <|
    runs_ret rfl
theorem p_X2_traced_0_R {ex : Ex} {w : Wd} : runs (T_X2_traced ex) (0, [.ref 19], [], w) = some (some (.long (w.2 19 0)), w) := 
    (runs_stps (q' := (4, [.ref 19], [.long (w.2 19 0)], w)) 2 rfl).trans <|
    runs_ret rfl
theorem p_X2_rating_0S1_R {ex : Ex} {p : Nat} {x1 : Int32} {x4 : Int32} {r1 : Int32} {w1 : Wd} {w : Wd} (hp : scp p) (h1 : x1 = 1) (h2 : ex 14 [.ref 19, .ref p, .int x4] w = some (some (.int r1), w1)) : runs (T_X2_rating ex) (0, [.ref 19, .int x1, .ref p, .ref 4, .int x4], [], w) = some (some (.int r1), w1) := by
  rcases hp with rfl | rfl
  · exact (runs_stps (q' := (1, [.ref 19, .int x1, .ref 20, .ref 4, .int x4], [.int x1], w)) 1 rfl).trans <|
    (runs_sw (L := [.ref 19, .int x1, .ref 20, .ref 4, .int x4]) (st := []) (w := w) rfl (show tsel _ _ _ = 36 by rw [h1]; rfl)).trans <|
    (runs_stps (q' := (40, [.ref 19, .null, .ref 20, .null, .int x4], [.int x4, .ref 20, .ref 19], w)) 3 rfl).trans <|
    (runs_callV (rv := some (.int r1)) (w' := w1) rfl rfl rfl rfl h2).trans <|
    runs_ret rfl
  · exact (runs_stps (q' := (1, [.ref 19, .int x1, .ref 27, .ref 4, .int x4], [.int x1], w)) 1 rfl).trans <|
    (runs_sw (L := [.ref 19, .int x1, .ref 27, .ref 4, .int x4]) (st := []) (w := w) rfl (show tsel _ _ _ = 36 by rw [h1]; rfl)).trans <|
    (runs_stps (q' := (40, [.ref 19, .null, .ref 27, .null, .int x4], [.int x4, .ref 27, .ref 19], w)) 3 rfl).trans <|
    (runs_callV (rv := some (.int r1)) (w' := w1) rfl rfl rfl rfl h2).trans <|
    runs_ret rfl
theorem p_X2_rating_0S2_R {ex : Ex} {p : Nat} {x1 : Int32} {x4 : Int32} {r1 : Int32} {w1 : Wd} {w : Wd} (hp : scp p) (h1 : x1 = 2) (h2 : ex 15 [.ref 19, .ref p, .int x4] w = some (some (.int r1), w1)) : runs (T_X2_rating ex) (0, [.ref 19, .int x1, .ref p, .ref 4, .int x4], [], w) = some (some (.int r1), w1) := by
  rcases hp with rfl | rfl
  · exact (runs_stps (q' := (1, [.ref 19, .int x1, .ref 20, .ref 4, .int x4], [.int x1], w)) 1 rfl).trans <|
    (runs_sw (L := [.ref 19, .int x1, .ref 20, .ref 4, .int x4]) (st := []) (w := w) rfl (show tsel _ _ _ = 44 by rw [h1]; rfl)).trans <|
    (runs_stps (q' := (48, [.ref 19, .null, .ref 20, .null, .int x4], [.int x4, .ref 20, .ref 19], w)) 3 rfl).trans <|
    (runs_callV (rv := some (.int r1)) (w' := w1) rfl rfl rfl rfl h2).trans <|
    runs_ret rfl
  · exact (runs_stps (q' := (1, [.ref 19, .int x1, .ref 27, .ref 4, .int x4], [.int x1], w)) 1 rfl).trans <|
    (runs_sw (L := [.ref 19, .int x1, .ref 27, .ref 4, .int x4]) (st := []) (w := w) rfl (show tsel _ _ _ = 44 by rw [h1]; rfl)).trans <|
    (runs_stps (q' := (48, [.ref 19, .null, .ref 27, .null, .int x4], [.int x4, .ref 27, .ref 19], w)) 3 rfl).trans <|
    (runs_callV (rv := some (.int r1)) (w' := w1) rfl rfl rfl rfl h2).trans <|
    runs_ret rfl
theorem p_X2_rating_0S3_R {ex : Ex} {p : Nat} {x1 : Int32} {x4 : Int32} {r1 : Int32} {w1 : Wd} {w : Wd} (hp : scp p) (h1 : x1 = 3) (h2 : ex 16 [.ref 19, .ref p, .int x4] w = some (some (.int r1), w1)) : runs (T_X2_rating ex) (0, [.ref 19, .int x1, .ref p, .ref 4, .int x4], [], w) = some (some (.int r1), w1) := by
  rcases hp with rfl | rfl
  · exact (runs_stps (q' := (1, [.ref 19, .int x1, .ref 20, .ref 4, .int x4], [.int x1], w)) 1 rfl).trans <|
    (runs_sw (L := [.ref 19, .int x1, .ref 20, .ref 4, .int x4]) (st := []) (w := w) rfl (show tsel _ _ _ = 52 by rw [h1]; rfl)).trans <|
    (runs_stps (q' := (56, [.ref 19, .null, .ref 20, .null, .int x4], [.int x4, .ref 20, .ref 19], w)) 3 rfl).trans <|
    (runs_callV (rv := some (.int r1)) (w' := w1) rfl rfl rfl rfl h2).trans <|
    runs_ret rfl
  · exact (runs_stps (q' := (1, [.ref 19, .int x1, .ref 27, .ref 4, .int x4], [.int x1], w)) 1 rfl).trans <|
    (runs_sw (L := [.ref 19, .int x1, .ref 27, .ref 4, .int x4]) (st := []) (w := w) rfl (show tsel _ _ _ = 52 by rw [h1]; rfl)).trans <|
    (runs_stps (q' := (56, [.ref 19, .null, .ref 27, .null, .int x4], [.int x4, .ref 27, .ref 19], w)) 3 rfl).trans <|
    (runs_callV (rv := some (.int r1)) (w' := w1) rfl rfl rfl rfl h2).trans <|
    runs_ret rfl
theorem p_X2_rating_0S4_R {ex : Ex} {p : Nat} {x1 : Int32} {x4 : Int32} {r1 : Int32} {w1 : Wd} {w : Wd} (hp : scp p) (h1 : x1 = 4) (h2 : ex 17 [.ref 19, .ref p, .int x4] w = some (some (.int r1), w1)) : runs (T_X2_rating ex) (0, [.ref 19, .int x1, .ref p, .ref 4, .int x4], [], w) = some (some (.int r1), w1) := by
  rcases hp with rfl | rfl
  · exact (runs_stps (q' := (1, [.ref 19, .int x1, .ref 20, .ref 4, .int x4], [.int x1], w)) 1 rfl).trans <|
    (runs_sw (L := [.ref 19, .int x1, .ref 20, .ref 4, .int x4]) (st := []) (w := w) rfl (show tsel _ _ _ = 60 by rw [h1]; rfl)).trans <|
    (runs_stps (q' := (64, [.ref 19, .null, .ref 20, .null, .int x4], [.int x4, .ref 20, .ref 19], w)) 3 rfl).trans <|
    (runs_callV (rv := some (.int r1)) (w' := w1) rfl rfl rfl rfl h2).trans <|
    runs_ret rfl
  · exact (runs_stps (q' := (1, [.ref 19, .int x1, .ref 27, .ref 4, .int x4], [.int x1], w)) 1 rfl).trans <|
    (runs_sw (L := [.ref 19, .int x1, .ref 27, .ref 4, .int x4]) (st := []) (w := w) rfl (show tsel _ _ _ = 60 by rw [h1]; rfl)).trans <|
    (runs_stps (q' := (64, [.ref 19, .null, .ref 27, .null, .int x4], [.int x4, .ref 27, .ref 19], w)) 3 rfl).trans <|
    (runs_callV (rv := some (.int r1)) (w' := w1) rfl rfl rfl rfl h2).trans <|
    runs_ret rfl
theorem p_X2_rating_0S5_R {ex : Ex} {p : Nat} {x1 : Int32} {x4 : Int32} {r1 : Int32} {w1 : Wd} {w : Wd} (hp : scp p) (h1 : x1 = 5) (h2 : ex 18 [.ref 19, .ref p, .ref 4, .int x4] w = some (some (.int r1), w1)) : runs (T_X2_rating ex) (0, [.ref 19, .int x1, .ref p, .ref 4, .int x4], [], w) = some (some (.int r1), w1) := by
  rcases hp with rfl | rfl
  · exact (runs_stps (q' := (1, [.ref 19, .int x1, .ref 20, .ref 4, .int x4], [.int x1], w)) 1 rfl).trans <|
    (runs_sw (L := [.ref 19, .int x1, .ref 20, .ref 4, .int x4]) (st := []) (w := w) rfl (show tsel _ _ _ = 68 by rw [h1]; rfl)).trans <|
    (runs_stps (q' := (73, [.ref 19, .null, .ref 20, .ref 4, .int x4], [.int x4, .ref 4, .ref 20, .ref 19], w)) 4 rfl).trans <|
    (runs_callV (rv := some (.int r1)) (w' := w1) rfl rfl rfl rfl h2).trans <|
    runs_ret rfl
  · exact (runs_stps (q' := (1, [.ref 19, .int x1, .ref 27, .ref 4, .int x4], [.int x1], w)) 1 rfl).trans <|
    (runs_sw (L := [.ref 19, .int x1, .ref 27, .ref 4, .int x4]) (st := []) (w := w) rfl (show tsel _ _ _ = 68 by rw [h1]; rfl)).trans <|
    (runs_stps (q' := (73, [.ref 19, .null, .ref 27, .ref 4, .int x4], [.int x4, .ref 4, .ref 27, .ref 19], w)) 4 rfl).trans <|
    (runs_callV (rv := some (.int r1)) (w' := w1) rfl rfl rfl rfl h2).trans <|
    runs_ret rfl
theorem p_X2_rating_0Sd_R {ex : Ex} {p : Nat} {x1 : Int32} {x4 : Int32} {r1 : Int32} {w1 : Wd} {w : Wd} (hp : scp p) (h1 : ¬ x1 = 1) (h2 : ¬ x1 = 2) (h3 : ¬ x1 = 3) (h4 : ¬ x1 = 4) (h5 : ¬ x1 = 5) (h6 : ex 13 [.ref 19, .ref p, .int x4] w = some (some (.int r1), w1)) : runs (T_X2_rating ex) (0, [.ref 19, .int x1, .ref p, .ref 4, .int x4], [], w) = some (some (.int r1), w1) := by
  rcases hp with rfl | rfl
  · exact (runs_stps (q' := (1, [.ref 19, .int x1, .ref 20, .ref 4, .int x4], [.int x1], w)) 1 rfl).trans <|
    (runs_sw (L := [.ref 19, .int x1, .ref 20, .ref 4, .int x4]) (st := []) (w := w) rfl (show tsel _ _ _ = 77 by simp only [tsel, h1, h2, h3, h4, h5, if_false])).trans <|
    (runs_stps (q' := (81, [.ref 19, .null, .ref 20, .null, .int x4], [.int x4, .ref 20, .ref 19], w)) 3 rfl).trans <|
    (runs_callV (rv := some (.int r1)) (w' := w1) rfl rfl rfl rfl h6).trans <|
    runs_ret rfl
  · exact (runs_stps (q' := (1, [.ref 19, .int x1, .ref 27, .ref 4, .int x4], [.int x1], w)) 1 rfl).trans <|
    (runs_sw (L := [.ref 19, .int x1, .ref 27, .ref 4, .int x4]) (st := []) (w := w) rfl (show tsel _ _ _ = 77 by simp only [tsel, h1, h2, h3, h4, h5, if_false])).trans <|
    (runs_stps (q' := (81, [.ref 19, .null, .ref 27, .null, .int x4], [.int x4, .ref 27, .ref 19], w)) 3 rfl).trans <|
    (runs_callV (rv := some (.int r1)) (w' := w1) rfl rfl rfl rfl h6).trans <|
    runs_ret rfl
theorem p_X2_asSpell_0_R {ex : Ex} {p : Nat} {x2 : Int32} {r1 : Int32} {w1 : Wd} {w : Wd} (hp : scp p) (h1 : ex 63 [.ref p, .int x2] (updL w 19 0 ((w.2 19 0) + 1)) = some (some (.int r1), w1)) : runs (T_X2_asSpell ex) (0, [.ref 19, .ref p, .int x2], [], w) = some (some (.int r1), w1) := by
  rcases hp with rfl | rfl
  · exact (runs_stps (q' := (12, [.ref 19, .ref 20, .int x2], [.int x2, .ref 20], updL w 19 0 ((w.2 19 0) + 1))) 8 rfl).trans <|
    (runs_callV (rv := some (.int r1)) (w' := w1) rfl rfl rfl rfl h1).trans <|
    runs_ret rfl
  · exact (runs_stps (q' := (12, [.ref 19, .ref 27, .int x2], [.int x2, .ref 27], updL w 19 0 ((w.2 19 0) + 1))) 8 rfl).trans <|
    (runs_callV (rv := some (.int r1)) (w' := w1) rfl rfl rfl rfl h1).trans <|
    runs_ret rfl
theorem p_X2_asCharm_0_R {ex : Ex} {p : Nat} {x2 : Int32} {r1 : Int32} {w1 : Wd} {r2 : Int32} {w2 : Wd} {w : Wd} (hp : scp p) (h1 : ex 13 [.ref 19, .ref p, .int x2] (updL w 19 0 ((w.2 19 0) + 10)) = some (some (.int r1), w1)) (h2 : ex 65 [.ref p, .int x2] w1 = some (some (.int r2), w2)) : runs (T_X2_asCharm ex) (0, [.ref 19, .ref p, .int x2], [], w) = some (some (.int (r1 + r2)), w2) := by
  rcases hp with rfl | rfl
  · exact (runs_stps (q' := (15, [.ref 19, .ref 20, .int x2], [.int x2, .ref 20, .ref 19], updL w 19 0 ((w.2 19 0) + 10))) 9 rfl).trans <|
    (runs_callV (rv := some (.int r1)) (w' := w1) rfl rfl rfl rfl h1).trans <|
    (runs_stps (q' := (20, [.ref 19, .ref 20, .int x2], [.int x2, .ref 20, .int r1], w1)) 2 rfl).trans <|
    (runs_callV (rv := some (.int r2)) (w' := w2) rfl rfl rfl rfl h2).trans <|
    (runs_stps (q' := (24, [.ref 19, .ref 20, .int x2], [.int (r1 + r2)], w2)) 1 rfl).trans <|
    runs_ret rfl
  · exact (runs_stps (q' := (15, [.ref 19, .ref 27, .int x2], [.int x2, .ref 27, .ref 19], updL w 19 0 ((w.2 19 0) + 10))) 9 rfl).trans <|
    (runs_callV (rv := some (.int r1)) (w' := w1) rfl rfl rfl rfl h1).trans <|
    (runs_stps (q' := (20, [.ref 19, .ref 27, .int x2], [.int x2, .ref 27, .int r1], w1)) 2 rfl).trans <|
    (runs_callV (rv := some (.int r2)) (w' := w2) rfl rfl rfl rfl h2).trans <|
    (runs_stps (q' := (24, [.ref 19, .ref 27, .int x2], [.int (r1 + r2)], w2)) 1 rfl).trans <|
    runs_ret rfl
theorem p_X2_asCurse_0_R {ex : Ex} {p : Nat} {x2 : Int32} {r1 : Int32} {w1 : Wd} {r2 : Int32} {w2 : Wd} {w : Wd} (hp : scp p) (h1 : ex 13 [.ref 19, .ref p, .int x2] (updL w 19 0 ((w.2 19 0) + 100)) = some (some (.int r1), w1)) (h2 : ex 66 [.ref p, .int x2] w1 = some (some (.int r2), w2)) : runs (T_X2_asCurse ex) (0, [.ref 19, .ref p, .int x2], [], w) = some (some (.int (r1 - r2)), w2) := by
  rcases hp with rfl | rfl
  · exact (runs_stps (q' := (15, [.ref 19, .ref 20, .int x2], [.int x2, .ref 20, .ref 19], updL w 19 0 ((w.2 19 0) + 100))) 9 rfl).trans <|
    (runs_callV (rv := some (.int r1)) (w' := w1) rfl rfl rfl rfl h1).trans <|
    (runs_stps (q' := (20, [.ref 19, .ref 20, .int x2], [.int x2, .ref 20, .int r1], w1)) 2 rfl).trans <|
    (runs_callV (rv := some (.int r2)) (w' := w2) rfl rfl rfl rfl h2).trans <|
    (runs_stps (q' := (24, [.ref 19, .ref 20, .int x2], [.int (r1 - r2)], w2)) 1 rfl).trans <|
    runs_ret rfl
  · exact (runs_stps (q' := (15, [.ref 19, .ref 27, .int x2], [.int x2, .ref 27, .ref 19], updL w 19 0 ((w.2 19 0) + 100))) 9 rfl).trans <|
    (runs_callV (rv := some (.int r1)) (w' := w1) rfl rfl rfl rfl h1).trans <|
    (runs_stps (q' := (20, [.ref 19, .ref 27, .int x2], [.int x2, .ref 27, .int r1], w1)) 2 rfl).trans <|
    (runs_callV (rv := some (.int r2)) (w' := w2) rfl rfl rfl rfl h2).trans <|
    (runs_stps (q' := (24, [.ref 19, .ref 27, .int x2], [.int (r1 - r2)], w2)) 1 rfl).trans <|
    runs_ret rfl
theorem p_X2_asFlame_0_R {ex : Ex} {p : Nat} {x2 : Int32} {r1 : Int32} {w1 : Wd} {w : Wd} (hp : scp p) (h1 : ex 14 [.ref 19, .ref p, .int x2] (updL w 19 0 ((w.2 19 0) + 1000)) = some (some (.int r1), w1)) : runs (T_X2_asFlame ex) (0, [.ref 19, .ref p, .int x2], [], w) = some (some (.int (2 * r1)), w1) := by
  rcases hp with rfl | rfl
  · exact (runs_stps (q' := (16, [.ref 19, .ref 20, .int x2], [.int x2, .ref 20, .ref 19, .int 2], updL w 19 0 ((w.2 19 0) + 1000))) 10 rfl).trans <|
    (runs_callV (rv := some (.int r1)) (w' := w1) rfl rfl rfl rfl h1).trans <|
    (runs_stps (q' := (20, [.ref 19, .ref 20, .int x2], [.int (2 * r1)], w1)) 1 rfl).trans <|
    runs_ret rfl
  · exact (runs_stps (q' := (16, [.ref 19, .ref 27, .int x2], [.int x2, .ref 27, .ref 19, .int 2], updL w 19 0 ((w.2 19 0) + 1000))) 10 rfl).trans <|
    (runs_callV (rv := some (.int r1)) (w' := w1) rfl rfl rfl rfl h1).trans <|
    (runs_stps (q' := (20, [.ref 19, .ref 27, .int x2], [.int (2 * r1)], w1)) 1 rfl).trans <|
    runs_ret rfl
theorem p_X2_asFrost_0_R {ex : Ex} {p : Nat} {x2 : Int32} {r1 : Int32} {w1 : Wd} {r2 : Int32} {w2 : Wd} {w : Wd} (hp : scp p) (h1 : ex 15 [.ref 19, .ref p, .int x2] (updL w 19 0 ((w.2 19 0) + 10000)) = some (some (.int r1), w1)) (h2 : ex 70 [.ref p, .int x2] w1 = some (some (.int r2), w2)) : runs (T_X2_asFrost ex) (0, [.ref 19, .ref p, .int x2], [], w) = some (some (.int (r1 + r2)), w2) := by
  rcases hp with rfl | rfl
  · exact (runs_stps (q' := (15, [.ref 19, .ref 20, .int x2], [.int x2, .ref 20, .ref 19], updL w 19 0 ((w.2 19 0) + 10000))) 9 rfl).trans <|
    (runs_callV (rv := some (.int r1)) (w' := w1) rfl rfl rfl rfl h1).trans <|
    (runs_stps (q' := (20, [.ref 19, .ref 20, .int x2], [.int x2, .ref 20, .int r1], w1)) 2 rfl).trans <|
    (runs_callV (rv := some (.int r2)) (w' := w2) rfl rfl rfl rfl h2).trans <|
    (runs_stps (q' := (24, [.ref 19, .ref 20, .int x2], [.int (r1 + r2)], w2)) 1 rfl).trans <|
    runs_ret rfl
  · exact (runs_stps (q' := (15, [.ref 19, .ref 27, .int x2], [.int x2, .ref 27, .ref 19], updL w 19 0 ((w.2 19 0) + 10000))) 9 rfl).trans <|
    (runs_callV (rv := some (.int r1)) (w' := w1) rfl rfl rfl rfl h1).trans <|
    (runs_stps (q' := (20, [.ref 19, .ref 27, .int x2], [.int x2, .ref 27, .int r1], w1)) 2 rfl).trans <|
    (runs_callV (rv := some (.int r2)) (w' := w2) rfl rfl rfl rfl h2).trans <|
    (runs_stps (q' := (24, [.ref 19, .ref 27, .int x2], [.int (r1 + r2)], w2)) 1 rfl).trans <|
    runs_ret rfl
theorem p_X2_asWax_0_R {ex : Ex} {p : Nat} {x3 : Int32} {r1 : Int32} {w1 : Wd} {r2 : Int32} {w2 : Wd} {w : Wd} (hp : scp p) (h1 : ex 13 [.ref 19, .ref p, .int x3] (updL w 19 0 ((w.2 19 0) + 100000)) = some (some (.int r1), w1)) (h2 : ex 99 [.ref 4, .int x3] w1 = some (some (.int r2), w2)) : runs (T_X2_asWax ex) (0, [.ref 19, .ref p, .ref 4, .int x3], [], w) = some (some (.int (r1 + r2)), w2) := by
  rcases hp with rfl | rfl
  · exact (runs_stps (q' := (15, [.ref 19, .ref 20, .ref 4, .int x3], [.int x3, .ref 20, .ref 19], updL w 19 0 ((w.2 19 0) + 100000))) 9 rfl).trans <|
    (runs_callV (rv := some (.int r1)) (w' := w1) rfl rfl rfl rfl h1).trans <|
    (runs_stps (q' := (20, [.ref 19, .ref 20, .ref 4, .int x3], [.int x3, .ref 4, .int r1], w1)) 2 rfl).trans <|
    (runs_callV (rv := some (.int r2)) (w' := w2) rfl rfl rfl rfl h2).trans <|
    (runs_stps (q' := (24, [.ref 19, .ref 20, .ref 4, .int x3], [.int (r1 + r2)], w2)) 1 rfl).trans <|
    runs_ret rfl
  · exact (runs_stps (q' := (15, [.ref 19, .ref 27, .ref 4, .int x3], [.int x3, .ref 27, .ref 19], updL w 19 0 ((w.2 19 0) + 100000))) 9 rfl).trans <|
    (runs_callV (rv := some (.int r1)) (w' := w1) rfl rfl rfl rfl h1).trans <|
    (runs_stps (q' := (20, [.ref 19, .ref 27, .ref 4, .int x3], [.int x3, .ref 4, .int r1], w1)) 2 rfl).trans <|
    (runs_callV (rv := some (.int r2)) (w' := w2) rfl rfl rfl rfl h2).trans <|
    (runs_stps (q' := (24, [.ref 19, .ref 27, .ref 4, .int x3], [.int (r1 + r2)], w2)) 1 rfl).trans <|
    runs_ret rfl
theorem p_X3_length_0_R {ex : Ex} {w : Wd} : runs (T_X3_length ex) (0, [.ref 1], [], w) = some (some (.int (w.1 1 1)), w) := 
    (runs_stps (q' := (4, [.ref 1], [.int (w.1 1 1)], w)) 2 rfl).trans <|
    runs_ret rfl
theorem p_X3_empty_0_R {ex : Ex} {w : Wd} : runs (T_X3_empty ex) (0, [.ref 1], [], w) = some (none, updI w 1 1 0) := 
    (runs_stps (q' := (5, [.ref 1], [], updI w 1 1 0)) 3 rfl).trans <|
    runs_ret rfl
theorem p_X3_hasRoomFor_0T_R {ex : Ex} {x1 : Int32} {w : Wd} (h1 : (300 - (w.1 1 1)) < x1) : runs (T_X3_hasRoomFor ex) (0, [.ref 1, .int x1], [], w) = some (some (.int 0), w) := 
    (runs_stps (q' := (9, [.ref 1, .int x1], [.int (300 - (w.1 1 1)), .int x1], w)) 5 rfl).trans <|
    (runs_if_t (a := 16) (b := 12) (L := [.ref 1, .int x1]) (st := []) (w := w) rfl h1).trans <|
    (runs_stps (q' := (17, [.null, .null], [.int 0], w)) 1 rfl).trans <|
    runs_ret rfl
theorem p_X3_hasRoomFor_0F_R {ex : Ex} {x1 : Int32} {w : Wd} (h1 : ¬ (300 - (w.1 1 1)) < x1) : runs (T_X3_hasRoomFor ex) (0, [.ref 1, .int x1], [], w) = some (some (.int 1), w) := 
    (runs_stps (q' := (9, [.ref 1, .int x1], [.int (300 - (w.1 1 1)), .int x1], w)) 5 rfl).trans <|
    (runs_if_f (a := 16) (b := 12) (L := [.ref 1, .int x1]) (st := []) (w := w) rfl h1).trans <|
    (runs_stps (q' := (17, [.ref 1, .int x1], [.int 1], w)) 2 rfl).trans <|
    runs_ret rfl
theorem p_X3_add_0T_R {ex : Ex} {x1 : Int32} {w : Wd} (h1 : 300 ≤ (w.1 1 1)) : runs (T_X3_add ex) (0, [.ref 1, .int x1], [], w) = some (none, w) := 
    (runs_stps (q' := (7, [.ref 1, .int x1], [.int 300, .int (w.1 1 1)], w)) 3 rfl).trans <|
    (runs_if_t (a := 32) (b := 10) (L := [.ref 1, .int x1]) (st := []) (w := w) rfl h1).trans <|
    runs_ret rfl
theorem p_X3_add_0F_R {ex : Ex} {x1 : Int32} {w1 : Wd} {w : Wd} (h1 : ¬ 300 ≤ (w.1 1 1)) (h2 : ex 134 [.ref 2, .int (w.1 1 1), .int x1] w = some (none, w1)) : runs (T_X3_add ex) (0, [.ref 1, .int x1], [], w) = some (none, updI w1 1 1 ((w1.1 1 1) + 1)) := 
    (runs_stps (q' := (7, [.ref 1, .int x1], [.int 300, .int (w.1 1 1)], w)) 3 rfl).trans <|
    (runs_if_f (a := 32) (b := 10) (L := [.ref 1, .int x1]) (st := []) (w := w) rfl h1).trans <|
    (runs_stps (q' := (19, [.ref 1, .int x1], [.int x1, .int (w.1 1 1), .ref 2], w)) 5 rfl).trans <|
    (runs_callS (rv := none) (w' := w1) rfl rfl rfl h2).trans <|
    (runs_stps (q' := (32, [.ref 1, .int x1], [], updI w1 1 1 ((w1.1 1 1) + 1))) 6 rfl).trans <|
    runs_ret rfl
theorem p_X3_read_0_L26 {ex : Ex} {p : Nat} {w1 : Wd} {w : Wd} (hp : scp p) (h1 : ex 46 [.ref p] w = some (none, w1)) : runs (T_X3_read ex) (0, [.ref 1, .ref p, .null], [], w) = runs (T_X3_read ex) (26, [.ref 1, .ref p, .int 0], [], updI (updI (updI (updI w1 1 2 0) 1 6 0) 1 9 0) 1 10 0) := by
  rcases hp with rfl | rfl
  · exact (runs_stps (q' := (1, [.ref 1, .ref 20, .null], [.ref 20], w)) 1 rfl).trans <|
    (runs_callV (rv := none) (w' := w1) rfl rfl rfl rfl h1).trans <|
    (runs_stps (q' := (26, [.ref 1, .ref 20, .int 0], [], updI (updI (updI (updI w1 1 2 0) 1 6 0) 1 9 0) 1 10 0)) 14 rfl).trans <|
    rfl
  · exact (runs_stps (q' := (1, [.ref 1, .ref 27, .null], [.ref 27], w)) 1 rfl).trans <|
    (runs_callV (rv := none) (w' := w1) rfl rfl rfl rfl h1).trans <|
    (runs_stps (q' := (26, [.ref 1, .ref 27, .int 0], [], updI (updI (updI (updI w1 1 2 0) 1 6 0) 1 9 0) 1 10 0)) 14 rfl).trans <|
    rfl
theorem p_X3_read_26T_R {ex : Ex} {p : Nat} {x2 : Int32} {w : Wd} (hp : scp p) (h1 : 300 < x2) : runs (T_X3_read ex) (26, [.ref 1, .ref p, .int x2], [], w) = some (some (.int ((-10) - (w.1 1 1))), w) := by
  rcases hp with rfl | rfl
  · exact (runs_stps (q' := (30, [.ref 1, .ref 20, .int x2], [.int 300, .int x2], w)) 2 rfl).trans <|
    (runs_if_t (a := 79) (b := 33) (L := [.ref 1, .ref 20, .int x2]) (st := []) (w := w) rfl h1).trans <|
    (runs_stps (q' := (86, [.ref 1, .null, .null], [.int ((-10) - (w.1 1 1))], w)) 4 rfl).trans <|
    runs_ret rfl
  · exact (runs_stps (q' := (30, [.ref 1, .ref 27, .int x2], [.int 300, .int x2], w)) 2 rfl).trans <|
    (runs_if_t (a := 79) (b := 33) (L := [.ref 1, .ref 27, .int x2]) (st := []) (w := w) rfl h1).trans <|
    (runs_stps (q' := (86, [.ref 1, .null, .null], [.int ((-10) - (w.1 1 1))], w)) 4 rfl).trans <|
    runs_ret rfl
theorem p_X3_read_26FTT_L26 {ex : Ex} {p : Nat} {x2 : Int32} {w1 : Wd} {r2 : Int32} {w2 : Wd} {w : Wd} (hp : scp p) (h1 : ¬ 300 < x2) (h2 : ex 32 [.ref 1] w = some (none, w1)) (h3 : ¬ (w1.1 1 3) = 1) (h4 : ex 24 [.ref 1, .ref p] w1 = some (some (.int r2), w2)) (h5 : ¬ r2 = 0) : runs (T_X3_read ex) (26, [.ref 1, .ref p, .int x2], [], w) = runs (T_X3_read ex) (26, [.ref 1, .ref p, .int (x2 + 1)], [], w2) := by
  rcases hp with rfl | rfl
  · exact (runs_stps (q' := (30, [.ref 1, .ref 20, .int x2], [.int 300, .int x2], w)) 2 rfl).trans <|
    (runs_if_f (a := 79) (b := 33) (L := [.ref 1, .ref 20, .int x2]) (st := []) (w := w) rfl h1).trans <|
    (runs_stps (q' := (34, [.ref 1, .ref 20, .int x2], [.ref 1], w)) 1 rfl).trans <|
    (runs_callV (rv := none) (w' := w1) rfl rfl rfl rfl h2).trans <|
    (runs_stps (q' := (42, [.ref 1, .ref 20, .int x2], [.int 1, .int (w1.1 1 3)], w1)) 3 rfl).trans <|
    (runs_if_f (a := 45) (b := 57) (L := [.ref 1, .ref 20, .int x2]) (st := []) (w := w1) rfl h3).trans <|
    (runs_stps (q' := (59, [.ref 1, .ref 20, .int x2], [.ref 20, .ref 1], w1)) 2 rfl).trans <|
    (runs_callV (rv := some (.int r2)) (w' := w2) rfl rfl rfl rfl h4).trans <|
    (runs_if_f (a := 65) (b := 73) (L := [.ref 1, .ref 20, .int x2]) (st := []) (w := w2) rfl h5).trans <|
    (runs_stps (q' := (26, [.ref 1, .ref 20, .int (x2 + 1)], [], w2)) 2 rfl).trans <|
    rfl
  · exact (runs_stps (q' := (30, [.ref 1, .ref 27, .int x2], [.int 300, .int x2], w)) 2 rfl).trans <|
    (runs_if_f (a := 79) (b := 33) (L := [.ref 1, .ref 27, .int x2]) (st := []) (w := w) rfl h1).trans <|
    (runs_stps (q' := (34, [.ref 1, .ref 27, .int x2], [.ref 1], w)) 1 rfl).trans <|
    (runs_callV (rv := none) (w' := w1) rfl rfl rfl rfl h2).trans <|
    (runs_stps (q' := (42, [.ref 1, .ref 27, .int x2], [.int 1, .int (w1.1 1 3)], w1)) 3 rfl).trans <|
    (runs_if_f (a := 45) (b := 57) (L := [.ref 1, .ref 27, .int x2]) (st := []) (w := w1) rfl h3).trans <|
    (runs_stps (q' := (59, [.ref 1, .ref 27, .int x2], [.ref 27, .ref 1], w1)) 2 rfl).trans <|
    (runs_callV (rv := some (.int r2)) (w' := w2) rfl rfl rfl rfl h4).trans <|
    (runs_if_f (a := 65) (b := 73) (L := [.ref 1, .ref 27, .int x2]) (st := []) (w := w2) rfl h5).trans <|
    (runs_stps (q' := (26, [.ref 1, .ref 27, .int (x2 + 1)], [], w2)) 2 rfl).trans <|
    rfl
theorem p_X3_read_26FTF_R {ex : Ex} {p : Nat} {x2 : Int32} {w1 : Wd} {r2 : Int32} {w2 : Wd} {w : Wd} (hp : scp p) (h1 : ¬ 300 < x2) (h2 : ex 32 [.ref 1] w = some (none, w1)) (h3 : ¬ (w1.1 1 3) = 1) (h4 : ex 24 [.ref 1, .ref p] w1 = some (some (.int r2), w2)) (h5 : r2 = 0) : runs (T_X3_read ex) (26, [.ref 1, .ref p, .int x2], [], w) = some (some (.int ((-10) - (w2.1 1 4))), w2) := by
  rcases hp with rfl | rfl
  · exact (runs_stps (q' := (30, [.ref 1, .ref 20, .int x2], [.int 300, .int x2], w)) 2 rfl).trans <|
    (runs_if_f (a := 79) (b := 33) (L := [.ref 1, .ref 20, .int x2]) (st := []) (w := w) rfl h1).trans <|
    (runs_stps (q' := (34, [.ref 1, .ref 20, .int x2], [.ref 1], w)) 1 rfl).trans <|
    (runs_callV (rv := none) (w' := w1) rfl rfl rfl rfl h2).trans <|
    (runs_stps (q' := (42, [.ref 1, .ref 20, .int x2], [.int 1, .int (w1.1 1 3)], w1)) 3 rfl).trans <|
    (runs_if_f (a := 45) (b := 57) (L := [.ref 1, .ref 20, .int x2]) (st := []) (w := w1) rfl h3).trans <|
    (runs_stps (q' := (59, [.ref 1, .ref 20, .int x2], [.ref 20, .ref 1], w1)) 2 rfl).trans <|
    (runs_callV (rv := some (.int r2)) (w' := w2) rfl rfl rfl rfl h4).trans <|
    (runs_if_t (a := 65) (b := 73) (L := [.ref 1, .ref 20, .int x2]) (st := []) (w := w2) rfl h5).trans <|
    (runs_stps (q' := (72, [.ref 1, .ref 20, .int x2], [.int ((-10) - (w2.1 1 4))], w2)) 4 rfl).trans <|
    runs_ret rfl
  · exact (runs_stps (q' := (30, [.ref 1, .ref 27, .int x2], [.int 300, .int x2], w)) 2 rfl).trans <|
    (runs_if_f (a := 79) (b := 33) (L := [.ref 1, .ref 27, .int x2]) (st := []) (w := w) rfl h1).trans <|
    (runs_stps (q' := (34, [.ref 1, .ref 27, .int x2], [.ref 1], w)) 1 rfl).trans <|
    (runs_callV (rv := none) (w' := w1) rfl rfl rfl rfl h2).trans <|
    (runs_stps (q' := (42, [.ref 1, .ref 27, .int x2], [.int 1, .int (w1.1 1 3)], w1)) 3 rfl).trans <|
    (runs_if_f (a := 45) (b := 57) (L := [.ref 1, .ref 27, .int x2]) (st := []) (w := w1) rfl h3).trans <|
    (runs_stps (q' := (59, [.ref 1, .ref 27, .int x2], [.ref 27, .ref 1], w1)) 2 rfl).trans <|
    (runs_callV (rv := some (.int r2)) (w' := w2) rfl rfl rfl rfl h4).trans <|
    (runs_if_t (a := 65) (b := 73) (L := [.ref 1, .ref 27, .int x2]) (st := []) (w := w2) rfl h5).trans <|
    (runs_stps (q' := (72, [.ref 1, .ref 27, .int x2], [.int ((-10) - (w2.1 1 4))], w2)) 4 rfl).trans <|
    runs_ret rfl
theorem p_X3_read_26FFTT_L26 {ex : Ex} {p : Nat} {x2 : Int32} {w1 : Wd} {r2 : Int32} {w2 : Wd} {w : Wd} (hp : scp p) (h1 : ¬ 300 < x2) (h2 : ex 32 [.ref 1] w = some (none, w1)) (h3 : (w1.1 1 3) = 1) (h4 : ¬ (w1.1 1 6) = 0) (h5 : ex 24 [.ref 1, .ref p] w1 = some (some (.int r2), w2)) (h6 : ¬ r2 = 0) : runs (T_X3_read ex) (26, [.ref 1, .ref p, .int x2], [], w) = runs (T_X3_read ex) (26, [.ref 1, .ref p, .int (x2 + 1)], [], w2) := by
  rcases hp with rfl | rfl
  · exact (runs_stps (q' := (30, [.ref 1, .ref 20, .int x2], [.int 300, .int x2], w)) 2 rfl).trans <|
    (runs_if_f (a := 79) (b := 33) (L := [.ref 1, .ref 20, .int x2]) (st := []) (w := w) rfl h1).trans <|
    (runs_stps (q' := (34, [.ref 1, .ref 20, .int x2], [.ref 1], w)) 1 rfl).trans <|
    (runs_callV (rv := none) (w' := w1) rfl rfl rfl rfl h2).trans <|
    (runs_stps (q' := (42, [.ref 1, .ref 20, .int x2], [.int 1, .int (w1.1 1 3)], w1)) 3 rfl).trans <|
    (runs_if_t (a := 45) (b := 57) (L := [.ref 1, .ref 20, .int x2]) (st := []) (w := w1) rfl h3).trans <|
    (runs_stps (q' := (49, [.ref 1, .ref 20, .int x2], [.int (w1.1 1 6)], w1)) 2 rfl).trans <|
    (runs_if_f (a := 52) (b := 57) (L := [.ref 1, .ref 20, .int x2]) (st := []) (w := w1) rfl h4).trans <|
    (runs_stps (q' := (59, [.ref 1, .ref 20, .int x2], [.ref 20, .ref 1], w1)) 2 rfl).trans <|
    (runs_callV (rv := some (.int r2)) (w' := w2) rfl rfl rfl rfl h5).trans <|
    (runs_if_f (a := 65) (b := 73) (L := [.ref 1, .ref 20, .int x2]) (st := []) (w := w2) rfl h6).trans <|
    (runs_stps (q' := (26, [.ref 1, .ref 20, .int (x2 + 1)], [], w2)) 2 rfl).trans <|
    rfl
  · exact (runs_stps (q' := (30, [.ref 1, .ref 27, .int x2], [.int 300, .int x2], w)) 2 rfl).trans <|
    (runs_if_f (a := 79) (b := 33) (L := [.ref 1, .ref 27, .int x2]) (st := []) (w := w) rfl h1).trans <|
    (runs_stps (q' := (34, [.ref 1, .ref 27, .int x2], [.ref 1], w)) 1 rfl).trans <|
    (runs_callV (rv := none) (w' := w1) rfl rfl rfl rfl h2).trans <|
    (runs_stps (q' := (42, [.ref 1, .ref 27, .int x2], [.int 1, .int (w1.1 1 3)], w1)) 3 rfl).trans <|
    (runs_if_t (a := 45) (b := 57) (L := [.ref 1, .ref 27, .int x2]) (st := []) (w := w1) rfl h3).trans <|
    (runs_stps (q' := (49, [.ref 1, .ref 27, .int x2], [.int (w1.1 1 6)], w1)) 2 rfl).trans <|
    (runs_if_f (a := 52) (b := 57) (L := [.ref 1, .ref 27, .int x2]) (st := []) (w := w1) rfl h4).trans <|
    (runs_stps (q' := (59, [.ref 1, .ref 27, .int x2], [.ref 27, .ref 1], w1)) 2 rfl).trans <|
    (runs_callV (rv := some (.int r2)) (w' := w2) rfl rfl rfl rfl h5).trans <|
    (runs_if_f (a := 65) (b := 73) (L := [.ref 1, .ref 27, .int x2]) (st := []) (w := w2) rfl h6).trans <|
    (runs_stps (q' := (26, [.ref 1, .ref 27, .int (x2 + 1)], [], w2)) 2 rfl).trans <|
    rfl
theorem p_X3_read_26FFTF_R {ex : Ex} {p : Nat} {x2 : Int32} {w1 : Wd} {r2 : Int32} {w2 : Wd} {w : Wd} (hp : scp p) (h1 : ¬ 300 < x2) (h2 : ex 32 [.ref 1] w = some (none, w1)) (h3 : (w1.1 1 3) = 1) (h4 : ¬ (w1.1 1 6) = 0) (h5 : ex 24 [.ref 1, .ref p] w1 = some (some (.int r2), w2)) (h6 : r2 = 0) : runs (T_X3_read ex) (26, [.ref 1, .ref p, .int x2], [], w) = some (some (.int ((-10) - (w2.1 1 4))), w2) := by
  rcases hp with rfl | rfl
  · exact (runs_stps (q' := (30, [.ref 1, .ref 20, .int x2], [.int 300, .int x2], w)) 2 rfl).trans <|
    (runs_if_f (a := 79) (b := 33) (L := [.ref 1, .ref 20, .int x2]) (st := []) (w := w) rfl h1).trans <|
    (runs_stps (q' := (34, [.ref 1, .ref 20, .int x2], [.ref 1], w)) 1 rfl).trans <|
    (runs_callV (rv := none) (w' := w1) rfl rfl rfl rfl h2).trans <|
    (runs_stps (q' := (42, [.ref 1, .ref 20, .int x2], [.int 1, .int (w1.1 1 3)], w1)) 3 rfl).trans <|
    (runs_if_t (a := 45) (b := 57) (L := [.ref 1, .ref 20, .int x2]) (st := []) (w := w1) rfl h3).trans <|
    (runs_stps (q' := (49, [.ref 1, .ref 20, .int x2], [.int (w1.1 1 6)], w1)) 2 rfl).trans <|
    (runs_if_f (a := 52) (b := 57) (L := [.ref 1, .ref 20, .int x2]) (st := []) (w := w1) rfl h4).trans <|
    (runs_stps (q' := (59, [.ref 1, .ref 20, .int x2], [.ref 20, .ref 1], w1)) 2 rfl).trans <|
    (runs_callV (rv := some (.int r2)) (w' := w2) rfl rfl rfl rfl h5).trans <|
    (runs_if_t (a := 65) (b := 73) (L := [.ref 1, .ref 20, .int x2]) (st := []) (w := w2) rfl h6).trans <|
    (runs_stps (q' := (72, [.ref 1, .ref 20, .int x2], [.int ((-10) - (w2.1 1 4))], w2)) 4 rfl).trans <|
    runs_ret rfl
  · exact (runs_stps (q' := (30, [.ref 1, .ref 27, .int x2], [.int 300, .int x2], w)) 2 rfl).trans <|
    (runs_if_f (a := 79) (b := 33) (L := [.ref 1, .ref 27, .int x2]) (st := []) (w := w) rfl h1).trans <|
    (runs_stps (q' := (34, [.ref 1, .ref 27, .int x2], [.ref 1], w)) 1 rfl).trans <|
    (runs_callV (rv := none) (w' := w1) rfl rfl rfl rfl h2).trans <|
    (runs_stps (q' := (42, [.ref 1, .ref 27, .int x2], [.int 1, .int (w1.1 1 3)], w1)) 3 rfl).trans <|
    (runs_if_t (a := 45) (b := 57) (L := [.ref 1, .ref 27, .int x2]) (st := []) (w := w1) rfl h3).trans <|
    (runs_stps (q' := (49, [.ref 1, .ref 27, .int x2], [.int (w1.1 1 6)], w1)) 2 rfl).trans <|
    (runs_if_f (a := 52) (b := 57) (L := [.ref 1, .ref 27, .int x2]) (st := []) (w := w1) rfl h4).trans <|
    (runs_stps (q' := (59, [.ref 1, .ref 27, .int x2], [.ref 27, .ref 1], w1)) 2 rfl).trans <|
    (runs_callV (rv := some (.int r2)) (w' := w2) rfl rfl rfl rfl h5).trans <|
    (runs_if_t (a := 65) (b := 73) (L := [.ref 1, .ref 27, .int x2]) (st := []) (w := w2) rfl h6).trans <|
    (runs_stps (q' := (72, [.ref 1, .ref 27, .int x2], [.int ((-10) - (w2.1 1 4))], w2)) 4 rfl).trans <|
    runs_ret rfl
theorem p_X3_read_26FFF_R {ex : Ex} {p : Nat} {x2 : Int32} {w1 : Wd} {w : Wd} (hp : scp p) (h1 : ¬ 300 < x2) (h2 : ex 32 [.ref 1] w = some (none, w1)) (h3 : (w1.1 1 3) = 1) (h4 : (w1.1 1 6) = 0) : runs (T_X3_read ex) (26, [.ref 1, .ref p, .int x2], [], w) = some (some (.int (w1.1 1 9)), w1) := by
  rcases hp with rfl | rfl
  · exact (runs_stps (q' := (30, [.ref 1, .ref 20, .int x2], [.int 300, .int x2], w)) 2 rfl).trans <|
    (runs_if_f (a := 79) (b := 33) (L := [.ref 1, .ref 20, .int x2]) (st := []) (w := w) rfl h1).trans <|
    (runs_stps (q' := (34, [.ref 1, .ref 20, .int x2], [.ref 1], w)) 1 rfl).trans <|
    (runs_callV (rv := none) (w' := w1) rfl rfl rfl rfl h2).trans <|
    (runs_stps (q' := (42, [.ref 1, .ref 20, .int x2], [.int 1, .int (w1.1 1 3)], w1)) 3 rfl).trans <|
    (runs_if_t (a := 45) (b := 57) (L := [.ref 1, .ref 20, .int x2]) (st := []) (w := w1) rfl h3).trans <|
    (runs_stps (q' := (49, [.ref 1, .ref 20, .int x2], [.int (w1.1 1 6)], w1)) 2 rfl).trans <|
    (runs_if_t (a := 52) (b := 57) (L := [.ref 1, .ref 20, .int x2]) (st := []) (w := w1) rfl h4).trans <|
    (runs_stps (q' := (56, [.ref 1, .ref 20, .int x2], [.int (w1.1 1 9)], w1)) 2 rfl).trans <|
    runs_ret rfl
  · exact (runs_stps (q' := (30, [.ref 1, .ref 27, .int x2], [.int 300, .int x2], w)) 2 rfl).trans <|
    (runs_if_f (a := 79) (b := 33) (L := [.ref 1, .ref 27, .int x2]) (st := []) (w := w) rfl h1).trans <|
    (runs_stps (q' := (34, [.ref 1, .ref 27, .int x2], [.ref 1], w)) 1 rfl).trans <|
    (runs_callV (rv := none) (w' := w1) rfl rfl rfl rfl h2).trans <|
    (runs_stps (q' := (42, [.ref 1, .ref 27, .int x2], [.int 1, .int (w1.1 1 3)], w1)) 3 rfl).trans <|
    (runs_if_t (a := 45) (b := 57) (L := [.ref 1, .ref 27, .int x2]) (st := []) (w := w1) rfl h3).trans <|
    (runs_stps (q' := (49, [.ref 1, .ref 27, .int x2], [.int (w1.1 1 6)], w1)) 2 rfl).trans <|
    (runs_if_t (a := 52) (b := 57) (L := [.ref 1, .ref 27, .int x2]) (st := []) (w := w1) rfl h4).trans <|
    (runs_stps (q' := (56, [.ref 1, .ref 27, .int x2], [.int (w1.1 1 9)], w1)) 2 rfl).trans <|
    runs_ret rfl
theorem p_X3_accepts_0S0_R {ex : Ex} {p : Nat} {w : Wd} (hp : scp p) (h1 : (w.1 1 3) = 0) : runs (T_X3_accepts ex) (0, [.ref 1, .ref p], [], w) = some (some (.int 0), w) := by
  rcases hp with rfl | rfl
  · exact (runs_stps (q' := (4, [.ref 1, .ref 20], [.int (w.1 1 3)], w)) 2 rfl).trans <|
    (runs_sw (L := [.ref 1, .ref 20]) (st := []) (w := w) rfl (show tsel _ _ _ = 36 by rw [h1]; rfl)).trans <|
    (runs_stps (q' := (37, [.null, .null], [.int 0], w)) 1 rfl).trans <|
    runs_ret rfl
  · exact (runs_stps (q' := (4, [.ref 1, .ref 27], [.int (w.1 1 3)], w)) 2 rfl).trans <|
    (runs_sw (L := [.ref 1, .ref 27]) (st := []) (w := w) rfl (show tsel _ _ _ = 36 by rw [h1]; rfl)).trans <|
    (runs_stps (q' := (37, [.null, .null], [.int 0], w)) 1 rfl).trans <|
    runs_ret rfl
theorem p_X3_accepts_0S1_R {ex : Ex} {p : Nat} {w : Wd} (hp : scp p) (h1 : (w.1 1 3) = 1) : runs (T_X3_accepts ex) (0, [.ref 1, .ref p], [], w) = some (some (.int 0), w) := by
  rcases hp with rfl | rfl
  · exact (runs_stps (q' := (4, [.ref 1, .ref 20], [.int (w.1 1 3)], w)) 2 rfl).trans <|
    (runs_sw (L := [.ref 1, .ref 20]) (st := []) (w := w) rfl (show tsel _ _ _ = 36 by rw [h1]; rfl)).trans <|
    (runs_stps (q' := (37, [.null, .null], [.int 0], w)) 1 rfl).trans <|
    runs_ret rfl
  · exact (runs_stps (q' := (4, [.ref 1, .ref 27], [.int (w.1 1 3)], w)) 2 rfl).trans <|
    (runs_sw (L := [.ref 1, .ref 27]) (st := []) (w := w) rfl (show tsel _ _ _ = 36 by rw [h1]; rfl)).trans <|
    (runs_stps (q' := (37, [.null, .null], [.int 0], w)) 1 rfl).trans <|
    runs_ret rfl
theorem p_X3_accepts_0S2_R {ex : Ex} {p : Nat} {r1 : Int32} {w1 : Wd} {w : Wd} (hp : scp p) (h1 : (w.1 1 3) = 2) (h2 : ex 29 [.ref 1, .ref p] w = some (some (.int r1), w1)) (h3 : r1 = 0 ∨ r1 = 1) : runs (T_X3_accepts ex) (0, [.ref 1, .ref p], [], w) = some (some (.int r1), w1) := by
  rcases hp with rfl | rfl
  · exact (runs_stps (q' := (4, [.ref 1, .ref 20], [.int (w.1 1 3)], w)) 2 rfl).trans <|
    (runs_sw (L := [.ref 1, .ref 20]) (st := []) (w := w) rfl (show tsel _ _ _ = 38 by rw [h1]; rfl)).trans <|
    (runs_stps (q' := (40, [.ref 1, .ref 20], [.ref 20, .ref 1], w)) 2 rfl).trans <|
    (runs_callV (rv := some (.int r1)) (w' := w1) rfl rfl rfl rfl h2).trans <|
    runs_rck rfl h3
  · exact (runs_stps (q' := (4, [.ref 1, .ref 27], [.int (w.1 1 3)], w)) 2 rfl).trans <|
    (runs_sw (L := [.ref 1, .ref 27]) (st := []) (w := w) rfl (show tsel _ _ _ = 38 by rw [h1]; rfl)).trans <|
    (runs_stps (q' := (40, [.ref 1, .ref 27], [.ref 27, .ref 1], w)) 2 rfl).trans <|
    (runs_callV (rv := some (.int r1)) (w' := w1) rfl rfl rfl rfl h2).trans <|
    runs_rck rfl h3
theorem p_X3_accepts_0S3_R {ex : Ex} {p : Nat} {r1 : Int32} {w1 : Wd} {w : Wd} (hp : scp p) (h1 : (w.1 1 3) = 3) (h2 : ex 27 [.ref 1, .ref p] w = some (some (.int r1), w1)) (h3 : r1 = 0 ∨ r1 = 1) : runs (T_X3_accepts ex) (0, [.ref 1, .ref p], [], w) = some (some (.int r1), w1) := by
  rcases hp with rfl | rfl
  · exact (runs_stps (q' := (4, [.ref 1, .ref 20], [.int (w.1 1 3)], w)) 2 rfl).trans <|
    (runs_sw (L := [.ref 1, .ref 20]) (st := []) (w := w) rfl (show tsel _ _ _ = 44 by rw [h1]; rfl)).trans <|
    (runs_stps (q' := (46, [.ref 1, .ref 20], [.ref 20, .ref 1], w)) 2 rfl).trans <|
    (runs_callV (rv := some (.int r1)) (w' := w1) rfl rfl rfl rfl h2).trans <|
    runs_rck rfl h3
  · exact (runs_stps (q' := (4, [.ref 1, .ref 27], [.int (w.1 1 3)], w)) 2 rfl).trans <|
    (runs_sw (L := [.ref 1, .ref 27]) (st := []) (w := w) rfl (show tsel _ _ _ = 44 by rw [h1]; rfl)).trans <|
    (runs_stps (q' := (46, [.ref 1, .ref 27], [.ref 27, .ref 1], w)) 2 rfl).trans <|
    (runs_callV (rv := some (.int r1)) (w' := w1) rfl rfl rfl rfl h2).trans <|
    runs_rck rfl h3
theorem p_X3_accepts_0Sd_R {ex : Ex} {p : Nat} {r1 : Int32} {w1 : Wd} {w : Wd} (hp : scp p) (h1 : ¬ (w.1 1 3) = 0) (h2 : ¬ (w.1 1 3) = 1) (h3 : ¬ (w.1 1 3) = 2) (h4 : ¬ (w.1 1 3) = 3) (h5 : ex 25 [.ref 1, .ref p] w = some (some (.int r1), w1)) (h6 : r1 = 0 ∨ r1 = 1) : runs (T_X3_accepts ex) (0, [.ref 1, .ref p], [], w) = some (some (.int r1), w1) := by
  rcases hp with rfl | rfl
  · exact (runs_stps (q' := (4, [.ref 1, .ref 20], [.int (w.1 1 3)], w)) 2 rfl).trans <|
    (runs_sw (L := [.ref 1, .ref 20]) (st := []) (w := w) rfl (show tsel _ _ _ = 50 by simp only [tsel, h1, h2, h3, h4, if_false])).trans <|
    (runs_stps (q' := (52, [.ref 1, .ref 20], [.ref 20, .ref 1], w)) 2 rfl).trans <|
    (runs_callV (rv := some (.int r1)) (w' := w1) rfl rfl rfl rfl h5).trans <|
    runs_rck rfl h6
  · exact (runs_stps (q' := (4, [.ref 1, .ref 27], [.int (w.1 1 3)], w)) 2 rfl).trans <|
    (runs_sw (L := [.ref 1, .ref 27]) (st := []) (w := w) rfl (show tsel _ _ _ = 50 by simp only [tsel, h1, h2, h3, h4, if_false])).trans <|
    (runs_stps (q' := (52, [.ref 1, .ref 27], [.ref 27, .ref 1], w)) 2 rfl).trans <|
    (runs_callV (rv := some (.int r1)) (w' := w1) rfl rfl rfl rfl h5).trans <|
    runs_rck rfl h6
theorem p_X3_opensItem_0T_R {ex : Ex} {p : Nat} {w : Wd} (hp : scp p) (h1 : ¬ (w.1 1 6) = 0) : runs (T_X3_opensItem ex) (0, [.ref 1, .ref p], [], w) = some (some (.int 0), w) := by
  rcases hp with rfl | rfl
  · exact (runs_stps (q' := (4, [.ref 1, .ref 20], [.int (w.1 1 6)], w)) 2 rfl).trans <|
    (runs_if_f (a := 7) (b := 15) (L := [.ref 1, .ref 20]) (st := []) (w := w) rfl h1).trans <|
    (runs_stps (q' := (16, [.null, .null], [.int 0], w)) 1 rfl).trans <|
    runs_ret rfl
  · exact (runs_stps (q' := (4, [.ref 1, .ref 27], [.int (w.1 1 6)], w)) 2 rfl).trans <|
    (runs_if_f (a := 7) (b := 15) (L := [.ref 1, .ref 27]) (st := []) (w := w) rfl h1).trans <|
    (runs_stps (q' := (16, [.null, .null], [.int 0], w)) 1 rfl).trans <|
    runs_ret rfl
theorem p_X3_opensItem_0FT_R {ex : Ex} {p : Nat} {r1 : Int32} {w1 : Wd} {w : Wd} (hp : scp p) (h1 : (w.1 1 6) = 0) (h2 : ex 26 [.ref 1, .ref p] w = some (some (.int r1), w1)) (h3 : ¬ r1 = 0) : runs (T_X3_opensItem ex) (0, [.ref 1, .ref p], [], w) = some (some (.int 1), updI (updI w1 1 6 (w1.1 1 3)) 1 8 0) := by
  rcases hp with rfl | rfl
  · exact (runs_stps (q' := (4, [.ref 1, .ref 20], [.int (w.1 1 6)], w)) 2 rfl).trans <|
    (runs_if_t (a := 7) (b := 15) (L := [.ref 1, .ref 20]) (st := []) (w := w) rfl h1).trans <|
    (runs_stps (q' := (9, [.ref 1, .ref 20], [.ref 20, .ref 1], w)) 2 rfl).trans <|
    (runs_callV (rv := some (.int r1)) (w' := w1) rfl rfl rfl rfl h2).trans <|
    (runs_if_f (a := 15) (b := 17) (L := [.ref 1, .ref 20]) (st := []) (w := w1) rfl h3).trans <|
    (runs_stps (q' := (31, [.ref 1, .null], [.int 1], updI (updI w1 1 6 (w1.1 1 3)) 1 8 0)) 8 rfl).trans <|
    runs_ret rfl
  · exact (runs_stps (q' := (4, [.ref 1, .ref 27], [.int (w.1 1 6)], w)) 2 rfl).trans <|
    (runs_if_t (a := 7) (b := 15) (L := [.ref 1, .ref 27]) (st := []) (w := w) rfl h1).trans <|
    (runs_stps (q' := (9, [.ref 1, .ref 27], [.ref 27, .ref 1], w)) 2 rfl).trans <|
    (runs_callV (rv := some (.int r1)) (w' := w1) rfl rfl rfl rfl h2).trans <|
    (runs_if_f (a := 15) (b := 17) (L := [.ref 1, .ref 27]) (st := []) (w := w1) rfl h3).trans <|
    (runs_stps (q' := (31, [.ref 1, .null], [.int 1], updI (updI w1 1 6 (w1.1 1 3)) 1 8 0)) 8 rfl).trans <|
    runs_ret rfl
theorem p_X3_opensItem_0FF_R {ex : Ex} {p : Nat} {r1 : Int32} {w1 : Wd} {w : Wd} (hp : scp p) (h1 : (w.1 1 6) = 0) (h2 : ex 26 [.ref 1, .ref p] w = some (some (.int r1), w1)) (h3 : r1 = 0) : runs (T_X3_opensItem ex) (0, [.ref 1, .ref p], [], w) = some (some (.int 0), w1) := by
  rcases hp with rfl | rfl
  · exact (runs_stps (q' := (4, [.ref 1, .ref 20], [.int (w.1 1 6)], w)) 2 rfl).trans <|
    (runs_if_t (a := 7) (b := 15) (L := [.ref 1, .ref 20]) (st := []) (w := w) rfl h1).trans <|
    (runs_stps (q' := (9, [.ref 1, .ref 20], [.ref 20, .ref 1], w)) 2 rfl).trans <|
    (runs_callV (rv := some (.int r1)) (w' := w1) rfl rfl rfl rfl h2).trans <|
    (runs_if_t (a := 15) (b := 17) (L := [.ref 1, .ref 20]) (st := []) (w := w1) rfl h3).trans <|
    (runs_stps (q' := (16, [.null, .null], [.int 0], w1)) 1 rfl).trans <|
    runs_ret rfl
  · exact (runs_stps (q' := (4, [.ref 1, .ref 27], [.int (w.1 1 6)], w)) 2 rfl).trans <|
    (runs_if_t (a := 7) (b := 15) (L := [.ref 1, .ref 27]) (st := []) (w := w) rfl h1).trans <|
    (runs_stps (q' := (9, [.ref 1, .ref 27], [.ref 27, .ref 1], w)) 2 rfl).trans <|
    (runs_callV (rv := some (.int r1)) (w' := w1) rfl rfl rfl rfl h2).trans <|
    (runs_if_t (a := 15) (b := 17) (L := [.ref 1, .ref 27]) (st := []) (w := w1) rfl h3).trans <|
    (runs_stps (q' := (16, [.null, .null], [.int 0], w1)) 1 rfl).trans <|
    runs_ret rfl
theorem p_X3_hasPlaceForItem_0S4T_R {ex : Ex} {p : Nat} {r1 : Int32} {w1 : Wd} {w : Wd} (hp : scp p) (h1 : (w.1 1 3) = 4) (h2 : ex 53 [.ref p] w = some (some (.int r1), w1)) (h3 : 5 ≤ r1) : runs (T_X3_hasPlaceForItem ex) (0, [.ref 1, .ref p], [], w) = some (some (.int 0), w1) := by
  rcases hp with rfl | rfl
  · exact (runs_stps (q' := (4, [.ref 1, .ref 20], [.int (w.1 1 3)], w)) 2 rfl).trans <|
    (runs_sw (L := [.ref 1, .ref 20]) (st := []) (w := w) rfl (show tsel _ _ _ = 32 by rw [h1]; rfl)).trans <|
    (runs_stps (q' := (33, [.null, .ref 20], [.ref 20], w)) 1 rfl).trans <|
    (runs_callV (rv := some (.int r1)) (w' := w1) rfl rfl rfl rfl h2).trans <|
    (runs_stps (q' := (37, [.null, .ref 20], [.int 5, .int r1], w1)) 1 rfl).trans <|
    (runs_if_t (a := 44) (b := 40) (L := [.null, .ref 20]) (st := []) (w := w1) rfl h3).trans <|
    (runs_stps (q' := (45, [.null, .null], [.int 0], w1)) 1 rfl).trans <|
    runs_ret rfl
  · exact (runs_stps (q' := (4, [.ref 1, .ref 27], [.int (w.1 1 3)], w)) 2 rfl).trans <|
    (runs_sw (L := [.ref 1, .ref 27]) (st := []) (w := w) rfl (show tsel _ _ _ = 32 by rw [h1]; rfl)).trans <|
    (runs_stps (q' := (33, [.null, .ref 27], [.ref 27], w)) 1 rfl).trans <|
    (runs_callV (rv := some (.int r1)) (w' := w1) rfl rfl rfl rfl h2).trans <|
    (runs_stps (q' := (37, [.null, .ref 27], [.int 5, .int r1], w1)) 1 rfl).trans <|
    (runs_if_t (a := 44) (b := 40) (L := [.null, .ref 27]) (st := []) (w := w1) rfl h3).trans <|
    (runs_stps (q' := (45, [.null, .null], [.int 0], w1)) 1 rfl).trans <|
    runs_ret rfl
theorem p_X3_hasPlaceForItem_0S4F_R {ex : Ex} {p : Nat} {r1 : Int32} {w1 : Wd} {w : Wd} (hp : scp p) (h1 : (w.1 1 3) = 4) (h2 : ex 53 [.ref p] w = some (some (.int r1), w1)) (h3 : ¬ 5 ≤ r1) : runs (T_X3_hasPlaceForItem ex) (0, [.ref 1, .ref p], [], w) = some (some (.int 1), w1) := by
  rcases hp with rfl | rfl
  · exact (runs_stps (q' := (4, [.ref 1, .ref 20], [.int (w.1 1 3)], w)) 2 rfl).trans <|
    (runs_sw (L := [.ref 1, .ref 20]) (st := []) (w := w) rfl (show tsel _ _ _ = 32 by rw [h1]; rfl)).trans <|
    (runs_stps (q' := (33, [.null, .ref 20], [.ref 20], w)) 1 rfl).trans <|
    (runs_callV (rv := some (.int r1)) (w' := w1) rfl rfl rfl rfl h2).trans <|
    (runs_stps (q' := (37, [.null, .ref 20], [.int 5, .int r1], w1)) 1 rfl).trans <|
    (runs_if_f (a := 44) (b := 40) (L := [.null, .ref 20]) (st := []) (w := w1) rfl h3).trans <|
    (runs_stps (q' := (45, [.null, .ref 20], [.int 1], w1)) 2 rfl).trans <|
    runs_ret rfl
  · exact (runs_stps (q' := (4, [.ref 1, .ref 27], [.int (w.1 1 3)], w)) 2 rfl).trans <|
    (runs_sw (L := [.ref 1, .ref 27]) (st := []) (w := w) rfl (show tsel _ _ _ = 32 by rw [h1]; rfl)).trans <|
    (runs_stps (q' := (33, [.null, .ref 27], [.ref 27], w)) 1 rfl).trans <|
    (runs_callV (rv := some (.int r1)) (w' := w1) rfl rfl rfl rfl h2).trans <|
    (runs_stps (q' := (37, [.null, .ref 27], [.int 5, .int r1], w1)) 1 rfl).trans <|
    (runs_if_f (a := 44) (b := 40) (L := [.null, .ref 27]) (st := []) (w := w1) rfl h3).trans <|
    (runs_stps (q' := (45, [.null, .ref 27], [.int 1], w1)) 2 rfl).trans <|
    runs_ret rfl
theorem p_X3_hasPlaceForItem_0S5T_R {ex : Ex} {p : Nat} {r1 : Int32} {w1 : Wd} {w : Wd} (hp : scp p) (h1 : (w.1 1 3) = 5) (h2 : ex 54 [.ref p] w = some (some (.int r1), w1)) (h3 : 4 ≤ r1) : runs (T_X3_hasPlaceForItem ex) (0, [.ref 1, .ref p], [], w) = some (some (.int 0), w1) := by
  rcases hp with rfl | rfl
  · exact (runs_stps (q' := (4, [.ref 1, .ref 20], [.int (w.1 1 3)], w)) 2 rfl).trans <|
    (runs_sw (L := [.ref 1, .ref 20]) (st := []) (w := w) rfl (show tsel _ _ _ = 46 by rw [h1]; rfl)).trans <|
    (runs_stps (q' := (47, [.null, .ref 20], [.ref 20], w)) 1 rfl).trans <|
    (runs_callV (rv := some (.int r1)) (w' := w1) rfl rfl rfl rfl h2).trans <|
    (runs_stps (q' := (51, [.null, .ref 20], [.int 4, .int r1], w1)) 1 rfl).trans <|
    (runs_if_t (a := 58) (b := 54) (L := [.null, .ref 20]) (st := []) (w := w1) rfl h3).trans <|
    (runs_stps (q' := (59, [.null, .null], [.int 0], w1)) 1 rfl).trans <|
    runs_ret rfl
  · exact (runs_stps (q' := (4, [.ref 1, .ref 27], [.int (w.1 1 3)], w)) 2 rfl).trans <|
    (runs_sw (L := [.ref 1, .ref 27]) (st := []) (w := w) rfl (show tsel _ _ _ = 46 by rw [h1]; rfl)).trans <|
    (runs_stps (q' := (47, [.null, .ref 27], [.ref 27], w)) 1 rfl).trans <|
    (runs_callV (rv := some (.int r1)) (w' := w1) rfl rfl rfl rfl h2).trans <|
    (runs_stps (q' := (51, [.null, .ref 27], [.int 4, .int r1], w1)) 1 rfl).trans <|
    (runs_if_t (a := 58) (b := 54) (L := [.null, .ref 27]) (st := []) (w := w1) rfl h3).trans <|
    (runs_stps (q' := (59, [.null, .null], [.int 0], w1)) 1 rfl).trans <|
    runs_ret rfl
theorem p_X3_hasPlaceForItem_0S5F_R {ex : Ex} {p : Nat} {r1 : Int32} {w1 : Wd} {w : Wd} (hp : scp p) (h1 : (w.1 1 3) = 5) (h2 : ex 54 [.ref p] w = some (some (.int r1), w1)) (h3 : ¬ 4 ≤ r1) : runs (T_X3_hasPlaceForItem ex) (0, [.ref 1, .ref p], [], w) = some (some (.int 1), w1) := by
  rcases hp with rfl | rfl
  · exact (runs_stps (q' := (4, [.ref 1, .ref 20], [.int (w.1 1 3)], w)) 2 rfl).trans <|
    (runs_sw (L := [.ref 1, .ref 20]) (st := []) (w := w) rfl (show tsel _ _ _ = 46 by rw [h1]; rfl)).trans <|
    (runs_stps (q' := (47, [.null, .ref 20], [.ref 20], w)) 1 rfl).trans <|
    (runs_callV (rv := some (.int r1)) (w' := w1) rfl rfl rfl rfl h2).trans <|
    (runs_stps (q' := (51, [.null, .ref 20], [.int 4, .int r1], w1)) 1 rfl).trans <|
    (runs_if_f (a := 58) (b := 54) (L := [.null, .ref 20]) (st := []) (w := w1) rfl h3).trans <|
    (runs_stps (q' := (59, [.null, .ref 20], [.int 1], w1)) 2 rfl).trans <|
    runs_ret rfl
  · exact (runs_stps (q' := (4, [.ref 1, .ref 27], [.int (w.1 1 3)], w)) 2 rfl).trans <|
    (runs_sw (L := [.ref 1, .ref 27]) (st := []) (w := w) rfl (show tsel _ _ _ = 46 by rw [h1]; rfl)).trans <|
    (runs_stps (q' := (47, [.null, .ref 27], [.ref 27], w)) 1 rfl).trans <|
    (runs_callV (rv := some (.int r1)) (w' := w1) rfl rfl rfl rfl h2).trans <|
    (runs_stps (q' := (51, [.null, .ref 27], [.int 4, .int r1], w1)) 1 rfl).trans <|
    (runs_if_f (a := 58) (b := 54) (L := [.null, .ref 27]) (st := []) (w := w1) rfl h3).trans <|
    (runs_stps (q' := (59, [.null, .ref 27], [.int 1], w1)) 2 rfl).trans <|
    runs_ret rfl
theorem p_X3_hasPlaceForItem_0S6T_R {ex : Ex} {p : Nat} {r1 : Int32} {w1 : Wd} {w : Wd} (hp : scp p) (h1 : (w.1 1 3) = 6) (h2 : ex 55 [.ref p] w = some (some (.int r1), w1)) (h3 : 3 ≤ r1) : runs (T_X3_hasPlaceForItem ex) (0, [.ref 1, .ref p], [], w) = some (some (.int 0), w1) := by
  rcases hp with rfl | rfl
  · exact (runs_stps (q' := (4, [.ref 1, .ref 20], [.int (w.1 1 3)], w)) 2 rfl).trans <|
    (runs_sw (L := [.ref 1, .ref 20]) (st := []) (w := w) rfl (show tsel _ _ _ = 60 by rw [h1]; rfl)).trans <|
    (runs_stps (q' := (61, [.null, .ref 20], [.ref 20], w)) 1 rfl).trans <|
    (runs_callV (rv := some (.int r1)) (w' := w1) rfl rfl rfl rfl h2).trans <|
    (runs_stps (q' := (65, [.null, .ref 20], [.int 3, .int r1], w1)) 1 rfl).trans <|
    (runs_if_t (a := 72) (b := 68) (L := [.null, .ref 20]) (st := []) (w := w1) rfl h3).trans <|
    (runs_stps (q' := (73, [.null, .null], [.int 0], w1)) 1 rfl).trans <|
    runs_ret rfl
  · exact (runs_stps (q' := (4, [.ref 1, .ref 27], [.int (w.1 1 3)], w)) 2 rfl).trans <|
    (runs_sw (L := [.ref 1, .ref 27]) (st := []) (w := w) rfl (show tsel _ _ _ = 60 by rw [h1]; rfl)).trans <|
    (runs_stps (q' := (61, [.null, .ref 27], [.ref 27], w)) 1 rfl).trans <|
    (runs_callV (rv := some (.int r1)) (w' := w1) rfl rfl rfl rfl h2).trans <|
    (runs_stps (q' := (65, [.null, .ref 27], [.int 3, .int r1], w1)) 1 rfl).trans <|
    (runs_if_t (a := 72) (b := 68) (L := [.null, .ref 27]) (st := []) (w := w1) rfl h3).trans <|
    (runs_stps (q' := (73, [.null, .null], [.int 0], w1)) 1 rfl).trans <|
    runs_ret rfl
theorem p_X3_hasPlaceForItem_0S6F_R {ex : Ex} {p : Nat} {r1 : Int32} {w1 : Wd} {w : Wd} (hp : scp p) (h1 : (w.1 1 3) = 6) (h2 : ex 55 [.ref p] w = some (some (.int r1), w1)) (h3 : ¬ 3 ≤ r1) : runs (T_X3_hasPlaceForItem ex) (0, [.ref 1, .ref p], [], w) = some (some (.int 1), w1) := by
  rcases hp with rfl | rfl
  · exact (runs_stps (q' := (4, [.ref 1, .ref 20], [.int (w.1 1 3)], w)) 2 rfl).trans <|
    (runs_sw (L := [.ref 1, .ref 20]) (st := []) (w := w) rfl (show tsel _ _ _ = 60 by rw [h1]; rfl)).trans <|
    (runs_stps (q' := (61, [.null, .ref 20], [.ref 20], w)) 1 rfl).trans <|
    (runs_callV (rv := some (.int r1)) (w' := w1) rfl rfl rfl rfl h2).trans <|
    (runs_stps (q' := (65, [.null, .ref 20], [.int 3, .int r1], w1)) 1 rfl).trans <|
    (runs_if_f (a := 72) (b := 68) (L := [.null, .ref 20]) (st := []) (w := w1) rfl h3).trans <|
    (runs_stps (q' := (73, [.null, .ref 20], [.int 1], w1)) 2 rfl).trans <|
    runs_ret rfl
  · exact (runs_stps (q' := (4, [.ref 1, .ref 27], [.int (w.1 1 3)], w)) 2 rfl).trans <|
    (runs_sw (L := [.ref 1, .ref 27]) (st := []) (w := w) rfl (show tsel _ _ _ = 60 by rw [h1]; rfl)).trans <|
    (runs_stps (q' := (61, [.null, .ref 27], [.ref 27], w)) 1 rfl).trans <|
    (runs_callV (rv := some (.int r1)) (w' := w1) rfl rfl rfl rfl h2).trans <|
    (runs_stps (q' := (65, [.null, .ref 27], [.int 3, .int r1], w1)) 1 rfl).trans <|
    (runs_if_f (a := 72) (b := 68) (L := [.null, .ref 27]) (st := []) (w := w1) rfl h3).trans <|
    (runs_stps (q' := (73, [.null, .ref 27], [.int 1], w1)) 2 rfl).trans <|
    runs_ret rfl
theorem p_X3_hasPlaceForItem_0SdT_R {ex : Ex} {p : Nat} {w : Wd} (hp : scp p) (h1 : ¬ (w.1 1 3) = 4) (h2 : ¬ (w.1 1 3) = 5) (h3 : ¬ (w.1 1 3) = 6) (h4 : ¬ (((w.1 1 10) >>> ((w.1 1 3) &&& 31)) &&& 1) = 0) : runs (T_X3_hasPlaceForItem ex) (0, [.ref 1, .ref p], [], w) = some (some (.int 0), w) := by
  rcases hp with rfl | rfl
  · exact (runs_stps (q' := (4, [.ref 1, .ref 20], [.int (w.1 1 3)], w)) 2 rfl).trans <|
    (runs_sw (L := [.ref 1, .ref 20]) (st := []) (w := w) rfl (show tsel _ _ _ = 74 by simp only [tsel, h1, h2, h3, if_false])).trans <|
    (runs_stps (q' := (85, [.ref 1, .null], [.int (((w.1 1 10) >>> ((w.1 1 3) &&& 31)) &&& 1)], w)) 7 rfl).trans <|
    (runs_if_f (a := 88) (b := 92) (L := [.ref 1, .null]) (st := []) (w := w) rfl h4).trans <|
    (runs_stps (q' := (93, [.null, .null], [.int 0], w)) 1 rfl).trans <|
    runs_ret rfl
  · exact (runs_stps (q' := (4, [.ref 1, .ref 27], [.int (w.1 1 3)], w)) 2 rfl).trans <|
    (runs_sw (L := [.ref 1, .ref 27]) (st := []) (w := w) rfl (show tsel _ _ _ = 74 by simp only [tsel, h1, h2, h3, if_false])).trans <|
    (runs_stps (q' := (85, [.ref 1, .null], [.int (((w.1 1 10) >>> ((w.1 1 3) &&& 31)) &&& 1)], w)) 7 rfl).trans <|
    (runs_if_f (a := 88) (b := 92) (L := [.ref 1, .null]) (st := []) (w := w) rfl h4).trans <|
    (runs_stps (q' := (93, [.null, .null], [.int 0], w)) 1 rfl).trans <|
    runs_ret rfl
theorem p_X3_hasPlaceForItem_0SdF_R {ex : Ex} {p : Nat} {w : Wd} (hp : scp p) (h1 : ¬ (w.1 1 3) = 4) (h2 : ¬ (w.1 1 3) = 5) (h3 : ¬ (w.1 1 3) = 6) (h4 : (((w.1 1 10) >>> ((w.1 1 3) &&& 31)) &&& 1) = 0) : runs (T_X3_hasPlaceForItem ex) (0, [.ref 1, .ref p], [], w) = some (some (.int 1), w) := by
  rcases hp with rfl | rfl
  · exact (runs_stps (q' := (4, [.ref 1, .ref 20], [.int (w.1 1 3)], w)) 2 rfl).trans <|
    (runs_sw (L := [.ref 1, .ref 20]) (st := []) (w := w) rfl (show tsel _ _ _ = 74 by simp only [tsel, h1, h2, h3, if_false])).trans <|
    (runs_stps (q' := (85, [.ref 1, .null], [.int (((w.1 1 10) >>> ((w.1 1 3) &&& 31)) &&& 1)], w)) 7 rfl).trans <|
    (runs_if_t (a := 88) (b := 92) (L := [.ref 1, .null]) (st := []) (w := w) rfl h4).trans <|
    (runs_stps (q' := (93, [.ref 1, .null], [.int 1], w)) 2 rfl).trans <|
    runs_ret rfl
  · exact (runs_stps (q' := (4, [.ref 1, .ref 27], [.int (w.1 1 3)], w)) 2 rfl).trans <|
    (runs_sw (L := [.ref 1, .ref 27]) (st := []) (w := w) rfl (show tsel _ _ _ = 74 by simp only [tsel, h1, h2, h3, if_false])).trans <|
    (runs_stps (q' := (85, [.ref 1, .null], [.int (((w.1 1 10) >>> ((w.1 1 3) &&& 31)) &&& 1)], w)) 7 rfl).trans <|
    (runs_if_t (a := 88) (b := 92) (L := [.ref 1, .null]) (st := []) (w := w) rfl h4).trans <|
    (runs_stps (q' := (93, [.ref 1, .null], [.int 1], w)) 2 rfl).trans <|
    runs_ret rfl
theorem p_X3_addsNumber_0T_R {ex : Ex} {p : Nat} {r1 : Int32} {w1 : Wd} {w2 : Wd} {w : Wd} (hp : scp p) (h1 : ex 28 [.ref 1, .ref p] w = some (some (.int r1), w1)) (h2 : ¬ r1 = 0) (h3 : ex 134 [.ref 3, .int (w1.1 1 8), .int (w1.1 1 5)] w1 = some (none, w2)) : runs (T_X3_addsNumber ex) (0, [.ref 1, .ref p], [], w) = some (some (.int 1), updI w2 1 8 ((w2.1 1 8) + 1)) := by
  rcases hp with rfl | rfl
  · exact (runs_stps (q' := (2, [.ref 1, .ref 20], [.ref 20, .ref 1], w)) 2 rfl).trans <|
    (runs_callV (rv := some (.int r1)) (w' := w1) rfl rfl rfl rfl h1).trans <|
    (runs_if_f (a := 8) (b := 10) (L := [.ref 1, .ref 20]) (st := []) (w := w1) rfl h2).trans <|
    (runs_stps (q' := (22, [.ref 1, .null], [.int (w1.1 1 5), .int (w1.1 1 8), .ref 3], w1)) 6 rfl).trans <|
    (runs_callS (rv := none) (w' := w2) rfl rfl rfl h3).trans <|
    (runs_stps (q' := (36, [.ref 1, .null], [.int 1], updI w2 1 8 ((w2.1 1 8) + 1))) 7 rfl).trans <|
    runs_ret rfl
  · exact (runs_stps (q' := (2, [.ref 1, .ref 27], [.ref 27, .ref 1], w)) 2 rfl).trans <|
    (runs_callV (rv := some (.int r1)) (w' := w1) rfl rfl rfl rfl h1).trans <|
    (runs_if_f (a := 8) (b := 10) (L := [.ref 1, .ref 27]) (st := []) (w := w1) rfl h2).trans <|
    (runs_stps (q' := (22, [.ref 1, .null], [.int (w1.1 1 5), .int (w1.1 1 8), .ref 3], w1)) 6 rfl).trans <|
    (runs_callS (rv := none) (w' := w2) rfl rfl rfl h3).trans <|
    (runs_stps (q' := (36, [.ref 1, .null], [.int 1], updI w2 1 8 ((w2.1 1 8) + 1))) 7 rfl).trans <|
    runs_ret rfl
theorem p_X3_addsNumber_0F_R {ex : Ex} {p : Nat} {r1 : Int32} {w1 : Wd} {w : Wd} (hp : scp p) (h1 : ex 28 [.ref 1, .ref p] w = some (some (.int r1), w1)) (h2 : r1 = 0) : runs (T_X3_addsNumber ex) (0, [.ref 1, .ref p], [], w) = some (some (.int 0), w1) := by
  rcases hp with rfl | rfl
  · exact (runs_stps (q' := (2, [.ref 1, .ref 20], [.ref 20, .ref 1], w)) 2 rfl).trans <|
    (runs_callV (rv := some (.int r1)) (w' := w1) rfl rfl rfl rfl h1).trans <|
    (runs_if_t (a := 8) (b := 10) (L := [.ref 1, .ref 20]) (st := []) (w := w1) rfl h2).trans <|
    (runs_stps (q' := (9, [.ref 1, .ref 20], [.int 0], w1)) 1 rfl).trans <|
    runs_ret rfl
  · exact (runs_stps (q' := (2, [.ref 1, .ref 27], [.ref 27, .ref 1], w)) 2 rfl).trans <|
    (runs_callV (rv := some (.int r1)) (w' := w1) rfl rfl rfl rfl h1).trans <|
    (runs_if_t (a := 8) (b := 10) (L := [.ref 1, .ref 27]) (st := []) (w := w1) rfl h2).trans <|
    (runs_stps (q' := (9, [.ref 1, .ref 27], [.int 0], w1)) 1 rfl).trans <|
    runs_ret rfl
theorem p_X3_canBeNext_0S4T_R {ex : Ex} {p : Nat} {w : Wd} (hp : scp p) (h1 : (w.1 1 6) = 4) (h2 : 4 ≤ (w.1 1 8)) : runs (T_X3_canBeNext ex) (0, [.ref 1, .ref p], [], w) = some (some (.int 0), w) := by
  rcases hp with rfl | rfl
  · exact (runs_stps (q' := (4, [.ref 1, .ref 20], [.int (w.1 1 6)], w)) 2 rfl).trans <|
    (runs_sw (L := [.ref 1, .ref 20]) (st := []) (w := w) rfl (show tsel _ _ _ = 44 by rw [h1]; rfl)).trans <|
    (runs_stps (q' := (49, [.ref 1, .null], [.int 4, .int (w.1 1 8)], w)) 3 rfl).trans <|
    (runs_if_t (a := 77) (b := 52) (L := [.ref 1, .null]) (st := []) (w := w) rfl h2).trans <|
    (runs_stps (q' := (78, [.null, .null], [.int 0], w)) 1 rfl).trans <|
    runs_ret rfl
  · exact (runs_stps (q' := (4, [.ref 1, .ref 27], [.int (w.1 1 6)], w)) 2 rfl).trans <|
    (runs_sw (L := [.ref 1, .ref 27]) (st := []) (w := w) rfl (show tsel _ _ _ = 44 by rw [h1]; rfl)).trans <|
    (runs_stps (q' := (49, [.ref 1, .null], [.int 4, .int (w.1 1 8)], w)) 3 rfl).trans <|
    (runs_if_t (a := 77) (b := 52) (L := [.ref 1, .null]) (st := []) (w := w) rfl h2).trans <|
    (runs_stps (q' := (78, [.null, .null], [.int 0], w)) 1 rfl).trans <|
    runs_ret rfl
theorem p_X3_canBeNext_0S4FTT_R {ex : Ex} {p : Nat} {w : Wd} (hp : scp p) (h1 : (w.1 1 6) = 4) (h2 : ¬ 4 ≤ (w.1 1 8)) (h3 : ¬ (w.1 1 8) = 1) (h4 : 9 < (w.1 1 5)) : runs (T_X3_canBeNext ex) (0, [.ref 1, .ref p], [], w) = some (some (.int 0), w) := by
  rcases hp with rfl | rfl
  · exact (runs_stps (q' := (4, [.ref 1, .ref 20], [.int (w.1 1 6)], w)) 2 rfl).trans <|
    (runs_sw (L := [.ref 1, .ref 20]) (st := []) (w := w) rfl (show tsel _ _ _ = 44 by rw [h1]; rfl)).trans <|
    (runs_stps (q' := (49, [.ref 1, .null], [.int 4, .int (w.1 1 8)], w)) 3 rfl).trans <|
    (runs_if_f (a := 77) (b := 52) (L := [.ref 1, .null]) (st := []) (w := w) rfl h2).trans <|
    (runs_stps (q' := (61, [.ref 1, .null], [.int 1, .int (w.1 1 8), .int (w.1 1 5)], w)) 5 rfl).trans <|
    (runs_if_f (a := 64) (b := 68) (L := [.ref 1, .null]) (st := [.int (w.1 1 5)]) (w := w) rfl h3).trans <|
    (runs_stps (q' := (70, [.null, .null], [.int 9, .int (w.1 1 5)], w)) 1 rfl).trans <|
    (runs_if_t (a := 77) (b := 73) (L := [.null, .null]) (st := []) (w := w) rfl h4).trans <|
    (runs_stps (q' := (78, [.null, .null], [.int 0], w)) 1 rfl).trans <|
    runs_ret rfl
  · exact (runs_stps (q' := (4, [.ref 1, .ref 27], [.int (w.1 1 6)], w)) 2 rfl).trans <|
    (runs_sw (L := [.ref 1, .ref 27]) (st := []) (w := w) rfl (show tsel _ _ _ = 44 by rw [h1]; rfl)).trans <|
    (runs_stps (q' := (49, [.ref 1, .null], [.int 4, .int (w.1 1 8)], w)) 3 rfl).trans <|
    (runs_if_f (a := 77) (b := 52) (L := [.ref 1, .null]) (st := []) (w := w) rfl h2).trans <|
    (runs_stps (q' := (61, [.ref 1, .null], [.int 1, .int (w.1 1 8), .int (w.1 1 5)], w)) 5 rfl).trans <|
    (runs_if_f (a := 64) (b := 68) (L := [.ref 1, .null]) (st := [.int (w.1 1 5)]) (w := w) rfl h3).trans <|
    (runs_stps (q' := (70, [.null, .null], [.int 9, .int (w.1 1 5)], w)) 1 rfl).trans <|
    (runs_if_t (a := 77) (b := 73) (L := [.null, .null]) (st := []) (w := w) rfl h4).trans <|
    (runs_stps (q' := (78, [.null, .null], [.int 0], w)) 1 rfl).trans <|
    runs_ret rfl
theorem p_X3_canBeNext_0S4FTF_R {ex : Ex} {p : Nat} {w : Wd} (hp : scp p) (h1 : (w.1 1 6) = 4) (h2 : ¬ 4 ≤ (w.1 1 8)) (h3 : ¬ (w.1 1 8) = 1) (h4 : ¬ 9 < (w.1 1 5)) : runs (T_X3_canBeNext ex) (0, [.ref 1, .ref p], [], w) = some (some (.int 1), w) := by
  rcases hp with rfl | rfl
  · exact (runs_stps (q' := (4, [.ref 1, .ref 20], [.int (w.1 1 6)], w)) 2 rfl).trans <|
    (runs_sw (L := [.ref 1, .ref 20]) (st := []) (w := w) rfl (show tsel _ _ _ = 44 by rw [h1]; rfl)).trans <|
    (runs_stps (q' := (49, [.ref 1, .null], [.int 4, .int (w.1 1 8)], w)) 3 rfl).trans <|
    (runs_if_f (a := 77) (b := 52) (L := [.ref 1, .null]) (st := []) (w := w) rfl h2).trans <|
    (runs_stps (q' := (61, [.ref 1, .null], [.int 1, .int (w.1 1 8), .int (w.1 1 5)], w)) 5 rfl).trans <|
    (runs_if_f (a := 64) (b := 68) (L := [.ref 1, .null]) (st := [.int (w.1 1 5)]) (w := w) rfl h3).trans <|
    (runs_stps (q' := (70, [.null, .null], [.int 9, .int (w.1 1 5)], w)) 1 rfl).trans <|
    (runs_if_f (a := 77) (b := 73) (L := [.null, .null]) (st := []) (w := w) rfl h4).trans <|
    (runs_stps (q' := (78, [.null, .null], [.int 1], w)) 2 rfl).trans <|
    runs_ret rfl
  · exact (runs_stps (q' := (4, [.ref 1, .ref 27], [.int (w.1 1 6)], w)) 2 rfl).trans <|
    (runs_sw (L := [.ref 1, .ref 27]) (st := []) (w := w) rfl (show tsel _ _ _ = 44 by rw [h1]; rfl)).trans <|
    (runs_stps (q' := (49, [.ref 1, .null], [.int 4, .int (w.1 1 8)], w)) 3 rfl).trans <|
    (runs_if_f (a := 77) (b := 52) (L := [.ref 1, .null]) (st := []) (w := w) rfl h2).trans <|
    (runs_stps (q' := (61, [.ref 1, .null], [.int 1, .int (w.1 1 8), .int (w.1 1 5)], w)) 5 rfl).trans <|
    (runs_if_f (a := 64) (b := 68) (L := [.ref 1, .null]) (st := [.int (w.1 1 5)]) (w := w) rfl h3).trans <|
    (runs_stps (q' := (70, [.null, .null], [.int 9, .int (w.1 1 5)], w)) 1 rfl).trans <|
    (runs_if_f (a := 77) (b := 73) (L := [.null, .null]) (st := []) (w := w) rfl h4).trans <|
    (runs_stps (q' := (78, [.null, .null], [.int 1], w)) 2 rfl).trans <|
    runs_ret rfl
theorem p_X3_canBeNext_0S4FFT_R {ex : Ex} {p : Nat} {w : Wd} (hp : scp p) (h1 : (w.1 1 6) = 4) (h2 : ¬ 4 ≤ (w.1 1 8)) (h3 : (w.1 1 8) = 1) (h4 : 1 < (w.1 1 5)) : runs (T_X3_canBeNext ex) (0, [.ref 1, .ref p], [], w) = some (some (.int 0), w) := by
  rcases hp with rfl | rfl
  · exact (runs_stps (q' := (4, [.ref 1, .ref 20], [.int (w.1 1 6)], w)) 2 rfl).trans <|
    (runs_sw (L := [.ref 1, .ref 20]) (st := []) (w := w) rfl (show tsel _ _ _ = 44 by rw [h1]; rfl)).trans <|
    (runs_stps (q' := (49, [.ref 1, .null], [.int 4, .int (w.1 1 8)], w)) 3 rfl).trans <|
    (runs_if_f (a := 77) (b := 52) (L := [.ref 1, .null]) (st := []) (w := w) rfl h2).trans <|
    (runs_stps (q' := (61, [.ref 1, .null], [.int 1, .int (w.1 1 8), .int (w.1 1 5)], w)) 5 rfl).trans <|
    (runs_if_t (a := 64) (b := 68) (L := [.ref 1, .null]) (st := [.int (w.1 1 5)]) (w := w) rfl h3).trans <|
    (runs_stps (q' := (70, [.ref 1, .null], [.int 1, .int (w.1 1 5)], w)) 2 rfl).trans <|
    (runs_if_t (a := 77) (b := 73) (L := [.null, .null]) (st := []) (w := w) rfl h4).trans <|
    (runs_stps (q' := (78, [.null, .null], [.int 0], w)) 1 rfl).trans <|
    runs_ret rfl
  · exact (runs_stps (q' := (4, [.ref 1, .ref 27], [.int (w.1 1 6)], w)) 2 rfl).trans <|
    (runs_sw (L := [.ref 1, .ref 27]) (st := []) (w := w) rfl (show tsel _ _ _ = 44 by rw [h1]; rfl)).trans <|
    (runs_stps (q' := (49, [.ref 1, .null], [.int 4, .int (w.1 1 8)], w)) 3 rfl).trans <|
    (runs_if_f (a := 77) (b := 52) (L := [.ref 1, .null]) (st := []) (w := w) rfl h2).trans <|
    (runs_stps (q' := (61, [.ref 1, .null], [.int 1, .int (w.1 1 8), .int (w.1 1 5)], w)) 5 rfl).trans <|
    (runs_if_t (a := 64) (b := 68) (L := [.ref 1, .null]) (st := [.int (w.1 1 5)]) (w := w) rfl h3).trans <|
    (runs_stps (q' := (70, [.ref 1, .null], [.int 1, .int (w.1 1 5)], w)) 2 rfl).trans <|
    (runs_if_t (a := 77) (b := 73) (L := [.null, .null]) (st := []) (w := w) rfl h4).trans <|
    (runs_stps (q' := (78, [.null, .null], [.int 0], w)) 1 rfl).trans <|
    runs_ret rfl
theorem p_X3_canBeNext_0S4FFF_R {ex : Ex} {p : Nat} {w : Wd} (hp : scp p) (h1 : (w.1 1 6) = 4) (h2 : ¬ 4 ≤ (w.1 1 8)) (h3 : (w.1 1 8) = 1) (h4 : ¬ 1 < (w.1 1 5)) : runs (T_X3_canBeNext ex) (0, [.ref 1, .ref p], [], w) = some (some (.int 1), w) := by
  rcases hp with rfl | rfl
  · exact (runs_stps (q' := (4, [.ref 1, .ref 20], [.int (w.1 1 6)], w)) 2 rfl).trans <|
    (runs_sw (L := [.ref 1, .ref 20]) (st := []) (w := w) rfl (show tsel _ _ _ = 44 by rw [h1]; rfl)).trans <|
    (runs_stps (q' := (49, [.ref 1, .null], [.int 4, .int (w.1 1 8)], w)) 3 rfl).trans <|
    (runs_if_f (a := 77) (b := 52) (L := [.ref 1, .null]) (st := []) (w := w) rfl h2).trans <|
    (runs_stps (q' := (61, [.ref 1, .null], [.int 1, .int (w.1 1 8), .int (w.1 1 5)], w)) 5 rfl).trans <|
    (runs_if_t (a := 64) (b := 68) (L := [.ref 1, .null]) (st := [.int (w.1 1 5)]) (w := w) rfl h3).trans <|
    (runs_stps (q' := (70, [.ref 1, .null], [.int 1, .int (w.1 1 5)], w)) 2 rfl).trans <|
    (runs_if_f (a := 77) (b := 73) (L := [.null, .null]) (st := []) (w := w) rfl h4).trans <|
    (runs_stps (q' := (78, [.null, .null], [.int 1], w)) 2 rfl).trans <|
    runs_ret rfl
  · exact (runs_stps (q' := (4, [.ref 1, .ref 27], [.int (w.1 1 6)], w)) 2 rfl).trans <|
    (runs_sw (L := [.ref 1, .ref 27]) (st := []) (w := w) rfl (show tsel _ _ _ = 44 by rw [h1]; rfl)).trans <|
    (runs_stps (q' := (49, [.ref 1, .null], [.int 4, .int (w.1 1 8)], w)) 3 rfl).trans <|
    (runs_if_f (a := 77) (b := 52) (L := [.ref 1, .null]) (st := []) (w := w) rfl h2).trans <|
    (runs_stps (q' := (61, [.ref 1, .null], [.int 1, .int (w.1 1 8), .int (w.1 1 5)], w)) 5 rfl).trans <|
    (runs_if_t (a := 64) (b := 68) (L := [.ref 1, .null]) (st := [.int (w.1 1 5)]) (w := w) rfl h3).trans <|
    (runs_stps (q' := (70, [.ref 1, .null], [.int 1, .int (w.1 1 5)], w)) 2 rfl).trans <|
    (runs_if_f (a := 77) (b := 73) (L := [.null, .null]) (st := []) (w := w) rfl h4).trans <|
    (runs_stps (q' := (78, [.null, .null], [.int 1], w)) 2 rfl).trans <|
    runs_ret rfl
theorem p_X3_canBeNext_0S5T_R {ex : Ex} {p : Nat} {w : Wd} (hp : scp p) (h1 : (w.1 1 6) = 5) (h2 : 5 ≤ (w.1 1 8)) : runs (T_X3_canBeNext ex) (0, [.ref 1, .ref p], [], w) = some (some (.int 0), w) := by
  rcases hp with rfl | rfl
  · exact (runs_stps (q' := (4, [.ref 1, .ref 20], [.int (w.1 1 6)], w)) 2 rfl).trans <|
    (runs_sw (L := [.ref 1, .ref 20]) (st := []) (w := w) rfl (show tsel _ _ _ = 79 by rw [h1]; rfl)).trans <|
    (runs_stps (q' := (84, [.ref 1, .ref 20], [.int 5, .int (w.1 1 8)], w)) 3 rfl).trans <|
    (runs_if_t (a := 102) (b := 87) (L := [.ref 1, .ref 20]) (st := []) (w := w) rfl h2).trans <|
    (runs_stps (q' := (103, [.null, .null], [.int 0], w)) 1 rfl).trans <|
    runs_ret rfl
  · exact (runs_stps (q' := (4, [.ref 1, .ref 27], [.int (w.1 1 6)], w)) 2 rfl).trans <|
    (runs_sw (L := [.ref 1, .ref 27]) (st := []) (w := w) rfl (show tsel _ _ _ = 79 by rw [h1]; rfl)).trans <|
    (runs_stps (q' := (84, [.ref 1, .ref 27], [.int 5, .int (w.1 1 8)], w)) 3 rfl).trans <|
    (runs_if_t (a := 102) (b := 87) (L := [.ref 1, .ref 27]) (st := []) (w := w) rfl h2).trans <|
    (runs_stps (q' := (103, [.null, .null], [.int 0], w)) 1 rfl).trans <|
    runs_ret rfl

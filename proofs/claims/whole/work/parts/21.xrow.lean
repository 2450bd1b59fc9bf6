/-! the class side: reads and writes of arrays; rows -/
theorem stp_alen {T : Tb} {pc a : Nat} {L st : List Value} {w : Wd} (hl : lk T pc = some oAlen) (ha : clsOf a = 50) : stp T (pc, L, .ref a :: st, w) = some (.inl (pc + 1, L, .int (nI (lenOf a)) :: st, w)) := by
  unfold stp
  dsimp only
  rw [hl]
  unfold oAlen
  dsimp only
  rw [ha]
  rfl
theorem stp_iald {T : Tb} {pc a : Nat} {i : Int32} {L st : List Value} {w : Wd} (hl : lk T pc = some oIald) (ha : clsOf a = 50) (hi : vp_in i (lenOf a)) : stp T (pc, L, .int i :: .ref a :: st, w) = some (.inl (pc + 1, L, .int (w.1 a i.toNatClampNeg) :: st, w)) := by
  unfold stp
  dsimp only
  rw [hl]
  unfold oIald
  dsimp only
  rw [ha]
  exact if_neg hi
theorem stp_iast {T : Tb} {pc a : Nat} {i x : Int32} {L st : List Value} {w : Wd} (hl : lk T pc = some oIast) (ha : clsOf a = 50) (hi : vp_in i (lenOf a)) : stp T (pc, L, .int x :: .int i :: .ref a :: st, w) = some (.inl (pc + 1, L, st, updI w a i.toNatClampNeg x)) := by
  unfold stp
  dsimp only
  rw [hl]
  unfold oIast
  dsimp only
  rw [ha]
  exact if_neg hi
theorem lenOf_lt (a : Nat) : lenOf a < 2 ^ 31 := by
  rcases Nat.lt_or_ge a 53 with h | h
  · have : ∀ b : Nat, b < 53 → lenOf b < 2 ^ 31 := by decide +kernel
    exact this a h
  · unfold lenOf
    rw [List.getD_eq_getElem?_getD, List.getElem?_eq_none (by simpa [lenL] using h)]
    decide
theorem s_at {d a k : Nat} {w : Wd} (ha : clsOf a = 50) (hk : k < lenOf a) : sem (d + 1) 133 [.ref a, .int (nI k)] w = some (some (.int (w.1 a k)), w) := by
  have hl := lenOf_lt a
  have hi : vp_in (nI k) (lenOf a) := vp_in_nI hk hl
  refine e_X8_at.trans ?_
  refine (runs_stps (q' := (1, [.ref a, .int (nI k)], [.int (nI k)], w)) 1 rfl).trans ?_
  refine (runs_if_f (a := 16) (b := 4) (L := [.ref a, .int (nI k)]) (st := []) (w := w) rfl (nI_pos (by omega))).trans ?_
  refine (runs_stps (q' := (6, [.ref a, .int (nI k)], [.ref a, .int (nI k)], w)) 2 rfl).trans ?_
  refine (runs_stp (stp_alen rfl ha)).trans ?_
  refine (runs_if_f (a := 16) (b := 10) (L := [.ref a, .int (nI k)]) (st := []) (w := w) rfl (nI_ge hk hl)).trans ?_
  refine (runs_stps (q' := (12, [.ref a, .int (nI k)], [.int (nI k), .ref a], w)) 2 rfl).trans ?_
  refine (runs_stp (stp_iald rfl ha hi)).trans ?_
  rw [nI_clamp (by omega)]
  refine (runs_stps (q' := (17, [.ref a, .int (nI k)], [.int (w.1 a k)], w)) 1 rfl).trans ?_
  exact runs_ret rfl
theorem s_put {d a k : Nat} {x : Int32} {w : Wd} (ha : clsOf a = 50) (hk : k < lenOf a) : sem (d + 1) 134 [.ref a, .int (nI k), .int x] w = some (none, updI w a k x) := by
  have hl := lenOf_lt a
  have hi : vp_in (nI k) (lenOf a) := vp_in_nI hk hl
  refine e_X8_put.trans ?_
  refine (runs_stps (q' := (1, [.ref a, .int (nI k), .int x], [.int (nI k)], w)) 1 rfl).trans ?_
  refine (runs_if_f (a := 14) (b := 4) (L := [.ref a, .int (nI k), .int x]) (st := []) (w := w) rfl (nI_pos (by omega))).trans ?_
  refine (runs_stps (q' := (6, [.ref a, .int (nI k), .int x], [.ref a, .int (nI k)], w)) 2 rfl).trans ?_
  refine (runs_stp (stp_alen rfl ha)).trans ?_
  refine (runs_if_f (a := 14) (b := 10) (L := [.ref a, .int (nI k), .int x]) (st := []) (w := w) rfl (nI_ge hk hl)).trans ?_
  refine (runs_stps (q' := (13, [.ref a, .int (nI k), .int x], [.int x, .int (nI k), .ref a], w)) 3 rfl).trans ?_
  refine (runs_stp (stp_iast rfl ha hi)).trans ?_
  rw [nI_clamp (by omega)]
  exact runs_ret rfl
/-- a row of an array, its first n places set -/
def filW (w : Wd) (a n : Nat) (v : Int32) : Wd := (fun q => if q = a then (fun k => if k < n then v else w.1 a k) else w.1 q, w.2)
theorem filW_0 (w : Wd) (a : Nat) (v : Int32) : filW w a 0 v = w := by
  unfold filW
  have e : (fun q => if q = a then (fun k => if k < 0 then v else w.1 a k) else w.1 q) = w.1 := by
    funext q
    by_cases h : q = a
    · rw [if_pos h, h]; rfl
    · rw [if_neg h]
  rw [e]
theorem filW_s (w : Wd) (a n : Nat) (v : Int32) : updI (filW w a n v) a n v = filW w a (n + 1) v := by
  unfold updI filW
  dsimp only
  congr 1
  funext q
  by_cases h : q = a
  · rw [if_pos h, if_pos h, if_pos rfl]
    funext k
    unfold upd
    by_cases hk : k = n
    · rw [if_pos hk, if_pos (by omega)]
    · rw [if_neg hk]
      by_cases h2 : k < n
      · dsimp only
        rw [if_pos h2, if_pos (by omega)]
      · dsimp only
        rw [if_neg h2, if_neg (by omega)]
  · rw [if_neg h, if_neg h, if_neg h]
theorem filW_at (w : Wd) (a n : Nat) (v : Int32) {k : Nat} (h : k < n) : (filW w a n v).1 a k = v := by
  unfold filW
  dsimp only
  rw [if_pos rfl, if_pos h]
theorem filW_out (w : Wd) (a n : Nat) (v : Int32) {k : Nat} (h : ¬ k < n) : (filW w a n v).1 a k = w.1 a k := by
  unfold filW
  dsimp only
  rw [if_pos rfl, if_neg h]
theorem filW_ne (w : Wd) {a b : Nat} (n : Nat) (v : Int32) (h : b ≠ a) : (filW w a n v).1 b = w.1 b := by
  unfold filW
  dsimp only
  rw [if_neg h]
theorem l_fill {ex : Ex} {a : Nat} {v : Int32} (ha : clsOf a = 50) (w : Wd) : ∀ (m k : Nat), m + k = lenOf a → runs (T_J7_fill_53178 ex) (5, [.ref a, .int v, .int (nI k), .int (nI (lenOf a))], [], filW w a k v) = some (none, filW w a (lenOf a) v) := by
  have hl := lenOf_lt a
  intro m
  induction m with
  | zero =>
    intro k hk
    have hk' : k = lenOf a := by omega
    subst hk'
    refine (runs_stps (q' := (7, [.ref a, .int v, .int (nI (lenOf a)), .int (nI (lenOf a))], [.int (nI (lenOf a)), .int (nI (lenOf a))], filW w a (lenOf a) v)) 2 rfl).trans ?_
    refine (runs_if_t (a := 20) (b := 10) (L := [.ref a, .int v, .int (nI (lenOf a)), .int (nI (lenOf a))]) (st := []) (w := filW w a (lenOf a) v) rfl (nI_le (Nat.le_refl _) hl)).trans ?_
    exact runs_ret rfl
  | succ m ih =>
    intro k hk
    have hlt : k < lenOf a := by omega
    refine (runs_stps (q' := (7, [.ref a, .int v, .int (nI k), .int (nI (lenOf a))], [.int (nI (lenOf a)), .int (nI k)], filW w a k v)) 2 rfl).trans ?_
    refine (runs_if_f (a := 20) (b := 10) (L := [.ref a, .int v, .int (nI k), .int (nI (lenOf a))]) (st := []) (w := filW w a k v) rfl (nI_ge hlt hl)).trans ?_
    refine (runs_stps (q' := (13, [.ref a, .int v, .int (nI k), .int (nI (lenOf a))], [.int v, .int (nI k), .ref a], filW w a k v)) 3 rfl).trans ?_
    refine (runs_stp (stp_iast rfl ha (vp_in_nI hlt hl))).trans ?_
    rw [nI_clamp (by omega), filW_s]
    refine (runs_stps (q' := (5, [.ref a, .int v, .int (nI k + 1), .int (nI (lenOf a))], [], filW w a (k + 1) v)) 2 rfl).trans ?_
    rw [nI_1]
    exact ih (k + 1) (by omega)
theorem s_fill {d a : Nat} {v : Int32} {w : Wd} (ha : clsOf a = 50) : sem (d + 1) 205 [.ref a, .int v] w = some (none, filW w a (lenOf a) v) := by
  refine e_J7_fill_53178.trans ?_
  refine (runs_stps (q' := (3, [.ref a, .int v, .int 0, .null], [.ref a], w)) 3 rfl).trans ?_
  refine (runs_stp (stp_alen rfl ha)).trans ?_
  refine (runs_stps (q' := (5, [.ref a, .int v, .int 0, .int (nI (lenOf a))], [], w)) 1 rfl).trans ?_
  have h := l_fill (ex := sem d) (v := v) ha w (lenOf a) 0 (by omega)
  rw [filW_0] at h
  exact h
theorem s_with {d c s : Nat} {w : Wd} : sem (d + 1) 39 [.int (nI c), .int (nI s)] w = some (some (.int (nI (5 * c + s + 1))), w) := by
  refine e_X4_with.trans (p_X4_with_0_R.trans ?_)
  rw [i_with]
theorem s_top {d : Nat} {r : List Nat} {w : Wd} (h : okr 5 r) : sem (d + 1) 40 [.int (nI (cx r))] w = some (some (.int (tpI r)), w) := by
  have hb := cx_lt h
  cases r with
  | nil => exact e_X4_top.trans (p_X4_top_0T_R (by decide))
  | cons s r =>
    have h5 := h.hd
    have hc : cx (s :: r) = 5 * cx r + s + 1 := rfl
    rw [hc] at hb ⊢
    refine e_X4_top.trans ((p_X4_top_0F_R (nI_nle (by omega) (by omega))).trans ?_)
    rw [i_top (by omega) h5]
    rfl
theorem s_below {d : Nat} {r : List Nat} {w : Wd} (h : okr 5 r) : sem (d + 1) 41 [.int (nI (cx r))] w = some (some (.int (nI (cx r.tail))), w) := by
  have hb := cx_lt h
  cases r with
  | nil => exact e_X4_below.trans (p_X4_below_0T_R (by decide))
  | cons s r =>
    have h5 := h.hd
    have hc : cx (s :: r) = 5 * cx r + s + 1 := rfl
    rw [hc] at hb ⊢
    refine e_X4_below.trans ((p_X4_below_0F_R (nI_nle (by omega) (by omega))).trans ?_)
    rw [i_below (by omega) h5]
    rfl
theorem okr.tail {S : Nat} {r : List Nat} (h : okr S r) : okr S r.tail := by
  cases r with
  | nil => exact h
  | cons s r => exact h.tl
theorem okr.drop {S : Nat} {r : List Nat} (h : okr S r) (k : Nat) : okr S (r.drop k) := ⟨by have := h.1; simp; omega, fun z hz => h.2 z (List.mem_of_mem_drop hz)⟩
theorem l_depth {d : Nat} {w : Wd} : ∀ (r : List Nat) (k : Nat) (v0 : Value), okr 5 r → k + r.length ≤ 5 → runs (T_X4_depth (sem (d + 1))) (4, [v0, .int (nI k), .int (nI (cx r))], [], w) = some (some (.int (nI (k + r.length))), w) := by
  intro r
  induction r with
  | nil => intro k v0 h hk; exact p_X4_depth_4T_R (by decide)
  | cons s r ih =>
    intro k v0 h hk
    have hb := cx_lt h
    have hz : 0 < cx (s :: r) := Nat.succ_pos _
    simp only [List.length_cons] at hk
    refine (p_X4_depth_4FF_L4 (nI_nle hz (by omega)) (nI_ge (b := 5) (by omega) (by decide)) (s_below h)).trans ?_
    rw [nI_1]
    refine (ih (k + 1) .null h.tl (by omega)).trans ?_
    rw [show k + 1 + r.length = k + (s :: r).length by simp only [List.length_cons]; omega]
theorem s_depth {d : Nat} {r : List Nat} {w : Wd} (h : okr 5 r) : sem (d + 2) 45 [.int (nI (cx r))] w = some (some (.int (nI r.length)), w) := by
  refine e_X4_depth.trans (p_X4_depth_0_L4.trans ?_)
  refine (l_depth r 0 _ h (by have := h.1; omega)).trans ?_
  rw [Nat.zero_add]
theorem l_without {d n : Nat} (hn : n < 2 ^ 31) {w : Wd} : ∀ (m k : Nat) (r : List Nat) (v0 : Value), m + k = n → okr 5 r → runs (T_X4_without (sem (d + 1))) (4, [v0, .int (nI n), .int (nI (cx r)), .int (nI k)], [], w) = some (some (.int (nI (cx (r.drop m)))), w) := by
  intro m
  induction m with
  | zero =>
    intro k r v0 hk h
    exact p_X4_without_4T_R (nI_le (by omega) (by omega))
  | succ m ih =>
    intro k r v0 hk h
    cases r with
    | nil => exact p_X4_without_4FT_R (nI_ge (by omega) hn) (by decide)
    | cons s r =>
      have hb := cx_lt h
      have hz : 0 < cx (s :: r) := Nat.succ_pos _
      refine (p_X4_without_4FF_L4 (nI_ge (by omega) hn) (nI_nle hz (by omega)) (s_below h)).trans ?_
      rw [nI_1]
      exact ih (k + 1) r .null (by omega) h.tl
theorem s_without {d n : Nat} {r : List Nat} {w : Wd} (h : okr 5 r) (hn : n < 2 ^ 31) : sem (d + 2) 42 [.int (nI (cx r)), .int (nI n)] w = some (some (.int (nI (cx (r.drop n)))), w) := by
  refine e_X4_without.trans (p_X4_without_0_L4.trans ?_)
  exact l_without hn n 0 r _ (by omega) h
theorem s_fromAbove {d n : Nat} {r : List Nat} {w : Wd} (h : okr 5 r) (hn : n < 2 ^ 31) : sem (d + 3) 43 [.int (nI (cx r)), .int (nI n)] w = some (some (.int (tpI (r.drop n))), w) :=
  e_X4_fromAbove.trans (p_X4_fromAbove_0_R (s_without h hn) (s_top (h.drop n)))
theorem s_swapped {d a b : Nat} {r : List Nat} {w : Wd} (h : okr 5 (a :: b :: r)) : sem (d + 2) 44 [.int (nI (cx (a :: b :: r)))] w = some (some (.int (nI (cx (b :: a :: r)))), w) :=
  e_X4_swapped.trans (p_X4_swapped_0_R (s_below h) (s_below h.tl) (s_top h) s_with (s_top h.tl) s_with)
theorem s_isFull {d : Nat} {r : List Nat} {w : Wd} (h : okr 5 r) : sem (d + 1) 38 [.int (nI (cx r))] w = some (some (.int (if r.length = 5 then 1 else 0)), w) := by
  have hb := cx_lt h
  have low : ∀ r : List Nat, 5 ^ r.length ≤ 4 * cx r + 1 := by
    intro r
    induction r with
    | nil => decide
    | cons s r ih =>
      show 5 ^ (r.length + 1) ≤ 4 * (5 * cx r + s + 1) + 1
      rw [Nat.pow_succ]
      omega
  by_cases hl : r.length = 5
  · have h1 := low r
    rw [hl, show 5 ^ 5 = 3125 by decide] at h1
    rw [if_pos hl]
    exact e_X4_isFull.trans (p_X4_isFull_0F_R (nI_nlt (a := cx r) (b := 781) (by omega) (by omega)))
  · have h1 := cx_len h.2
    have h2 : 5 ^ (r.length + 1) ≤ 5 ^ 5 := Nat.pow_le_pow_right (by decide) (by have := h.1; omega)
    rw [show 5 ^ 5 = 3125 by decide] at h2
    rw [if_neg hl]
    exact e_X4_isFull.trans (p_X4_isFull_0T_R (nI_lt (a := cx r) (b := 781) (by omega) (by decide)))

/-! the class's Reader: words; a token -/
theorem wrd_st : ∀ j, j < 6 → (wrd j).length = stL.getD j 0 ∧ (∀ k, k < (wrd j).length → (stB.getD j []).getD k 0 = nI ((wrd j).getD k 0)) ∧ ∀ k, k < (wrd j).length → 97 ≤ (wrd j).getD k 0 ∧ (wrd j).getD k 0 ≤ 122 := by decide +kernel
theorem wrd_len : ∀ j, j < 6 → (wrd j).length ≤ 5 := by decide +kernel
theorem low16 : ∀ b : Nat, b < 256 → ((nI b &&& 255).toUInt32 % 65536).toInt32 = nI b := by decide +kernel
section XWORD
variable {d : Nat} {bt : Nat → Nat} {n : Nat} {w : Wd}
theorem s_coder {j : Nat} (hj : j < 6) : sem (d + 1) 201 [.ref (100 + j)] w = some (some (.int 0), w) := by
  refine e_J0_coder_7d493.trans ?_
  match j, hj with
  | 0, _ => exact (runs_stps (q' := (14, [.ref 100], [.int 0], w)) 5 rfl).trans (runs_ret rfl)
  | 1, _ => exact (runs_stps (q' := (14, [.ref 101], [.int 0], w)) 5 rfl).trans (runs_ret rfl)
  | 2, _ => exact (runs_stps (q' := (14, [.ref 102], [.int 0], w)) 5 rfl).trans (runs_ret rfl)
  | 3, _ => exact (runs_stps (q' := (14, [.ref 103], [.int 0], w)) 5 rfl).trans (runs_ret rfl)
  | 4, _ => exact (runs_stps (q' := (14, [.ref 104], [.int 0], w)) 5 rfl).trans (runs_ret rfl)
  | 5, _ => exact (runs_stps (q' := (14, [.ref 105], [.int 0], w)) 5 rfl).trans (runs_ret rfl)
theorem s_latin {j : Nat} (hj : j < 6) : sem (d + 1) 202 [.ref (100 + j)] w = some (some (.int 1), w) := by
  refine e_J0_isLatin1_aae02.trans ?_
  match j, hj with
  | 0, _ => exact (runs_stps (q' := (18, [.ref 100], [.int 1], w)) 7 rfl).trans (runs_ret rfl)
  | 1, _ => exact (runs_stps (q' := (18, [.ref 101], [.int 1], w)) 7 rfl).trans (runs_ret rfl)
  | 2, _ => exact (runs_stps (q' := (18, [.ref 102], [.int 1], w)) 7 rfl).trans (runs_ret rfl)
  | 3, _ => exact (runs_stps (q' := (18, [.ref 103], [.int 1], w)) 7 rfl).trans (runs_ret rfl)
  | 4, _ => exact (runs_stps (q' := (18, [.ref 104], [.int 1], w)) 7 rfl).trans (runs_ret rfl)
  | 5, _ => exact (runs_stps (q' := (18, [.ref 105], [.int 1], w)) 7 rfl).trans (runs_ret rfl)
theorem s_slen {j : Nat} (hj : j < 6) : sem (d + 2) 199 [.ref (100 + j)] w = some (some (.int (nI (wrd j).length)), w) := by
  refine e_J0_length_8abf5.trans ?_
  match j, hj with
  | 0, hj => exact (runs_stps (q' := (6, [.ref 100], [.ref 100, .int 5], w)) 4 rfl).trans ((runs_callT rfl rfl rfl (s_coder hj)).trans ((runs_stps (q' := (10, [.ref 100], [.int 5], w)) 1 rfl).trans (runs_ret rfl)))
  | 1, hj => exact (runs_stps (q' := (6, [.ref 101], [.ref 101, .int 5], w)) 4 rfl).trans ((runs_callT rfl rfl rfl (s_coder hj)).trans ((runs_stps (q' := (10, [.ref 101], [.int 5], w)) 1 rfl).trans (runs_ret rfl)))
  | 2, hj => exact (runs_stps (q' := (6, [.ref 102], [.ref 102, .int 5], w)) 4 rfl).trans ((runs_callT rfl rfl rfl (s_coder hj)).trans ((runs_stps (q' := (10, [.ref 102], [.int 5], w)) 1 rfl).trans (runs_ret rfl)))
  | 3, hj => exact (runs_stps (q' := (6, [.ref 103], [.ref 103, .int 4], w)) 4 rfl).trans ((runs_callT rfl rfl rfl (s_coder hj)).trans ((runs_stps (q' := (10, [.ref 103], [.int 4], w)) 1 rfl).trans (runs_ret rfl)))
  | 4, hj => exact (runs_stps (q' := (6, [.ref 104], [.ref 104, .int 4], w)) 4 rfl).trans ((runs_callT rfl rfl rfl (s_coder hj)).trans ((runs_stps (q' := (10, [.ref 104], [.int 4], w)) 1 rfl).trans (runs_ret rfl)))
  | 5, hj => exact (runs_stps (q' := (6, [.ref 105], [.ref 105, .int 3], w)) 4 rfl).trans ((runs_callT rfl rfl rfl (s_coder hj)).trans ((runs_stps (q' := (10, [.ref 105], [.int 3], w)) 1 rfl).trans (runs_ret rfl)))
theorem s_ckI {a b : Nat} (h : a < b) (hb : b < 2 ^ 31) : sem (d + 1) 206 [.int (nI a), .int (nI b), .retAddr 0] w = some (some (.int (nI a)), w) := by
  refine e_J3_checkIndex_8e157.trans ?_
  refine (runs_stps (q' := (1, [.int (nI a), .int (nI b), .retAddr 0], [.int (nI a)], w)) 1 rfl).trans ?_
  refine (runs_if_f (a := 9) (b := 4) (L := [.int (nI a), .int (nI b), .retAddr 0]) (st := []) (w := w) rfl (nI_pos (by omega))).trans ?_
  refine (runs_stps (q' := (6, [.int (nI a), .int (nI b), .retAddr 0], [.int (nI b), .int (nI a)], w)) 2 rfl).trans ?_
  refine (runs_if_t (a := 16) (b := 9) (L := [.int (nI a), .int (nI b), .retAddr 0]) (st := []) (w := w) rfl (nI_lt h hb)).trans ?_
  refine (runs_stps (q' := (17, [.int (nI a), .null, .null], [.int (nI a)], w)) 1 rfl).trans ?_
  exact runs_ret rfl
theorem s_ck0 {a b : Nat} (h : a < b) (hb : b < 2 ^ 31) : sem (d + 2) 203 [.int (nI a), .int (nI b)] w = some (none, w) := by
  refine e_J0_checkIndex_df160.trans ?_
  refine (runs_stps (q' := (5, [.int (nI a), .int (nI b)], [.retAddr 0, .int (nI b), .int (nI a)], w)) 3 rfl).trans ?_
  refine (runs_callS rfl rfl rfl (s_ckI h hb)).trans ?_
  refine (runs_stps (q' := (9, [.int (nI a), .int (nI b)], [], w)) 1 rfl).trans ?_
  exact runs_ret rfl
theorem stp_SLen {T : Tb} {pc j : Nat} {L st : List Value} {w : Wd} (hl : lk T pc = some oSLen) (hj : j < 6) : stp T (pc, L, .ref (200 + j) :: st, w) = some (.inl (pc + 1, L, .int (nI (stL.getD j 0)) :: st, w)) := by
  unfold stp
  dsimp only
  rw [hl]
  unfold oSLen
  dsimp only
  have h1 : (Nat.ble 200 (200 + j) && Nat.blt (200 + j) 206) = true := by
    rw [Bool.and_eq_true]
    exact ⟨Nat.ble_eq_true_of_le (by omega), Nat.ble_eq_true_of_le (by omega)⟩
  rw [h1, Nat.add_sub_cancel_left]
theorem stp_SByt {T : Tb} {pc j k : Nat} {L st : List Value} {w : Wd} (hl : lk T pc = some oSByt) (hj : j < 6) (hk : k < stL.getD j 0) (h5 : k < 2 ^ 31) : stp T (pc, L, .int (nI k) :: .ref (200 + j) :: st, w) = some (.inl (pc + 1, L, .int ((stB.getD j []).getD k 0) :: st, w)) := by
  unfold stp
  dsimp only
  rw [hl]
  unfold oSByt
  dsimp only
  have h1 : (Nat.ble 200 (200 + j) && Nat.blt (200 + j) 206) = true := by
    rw [Bool.and_eq_true]
    exact ⟨Nat.ble_eq_true_of_le (by omega), Nat.ble_eq_true_of_le (by omega)⟩
  rw [h1, Nat.add_sub_cancel_left]
  dsimp only
  rw [nI_clamp h5]
  exact if_neg (fun h => h.elim (nI_pos h5) (fun h => by omega))
theorem stp_SVal {T : Tb} {pc j : Nat} {L st : List Value} {w : Wd} (hl : lk T pc = some oSVal) (hj : j < 6) : stp T (pc, L, .ref (100 + j) :: st, w) = some (.inl (pc + 3, L, .ref (200 + j) :: st, w)) := by
  unfold stp
  dsimp only
  rw [hl]
  unfold oSVal
  dsimp only
  have h1 : (Nat.ble 100 (100 + j) && Nat.blt (100 + j) 106) = true := by
    rw [Bool.and_eq_true]
    exact ⟨Nat.ble_eq_true_of_le (by omega), Nat.ble_eq_true_of_le (by omega)⟩
  rw [h1, show 100 + j + 100 = 200 + j by omega]
theorem bnd6 {j : Nat} (hj : j < 6) : ((Nat.ble 100 (100 + j) && Nat.blt (100 + j) 106) && Nat.ble (csum []) 8) = true := by
  rw [Bool.and_eq_true, Bool.and_eq_true]
  exact ⟨⟨Nat.ble_eq_true_of_le (by omega), Nat.ble_eq_true_of_le (by omega)⟩, rfl⟩
theorem s_char1 {j k : Nat} (hj : j < 6) (hk : k < (wrd j).length) : sem (d + 3) 204 [.ref (200 + j), .int (nI k)] w = some (some (.int (nI ((wrd j).getD k 0))), w) := by
  have h5 := wrd_len j hj
  obtain ⟨q1, q2, q3⟩ := wrd_st j hj
  have q4 := q3 k hk
  rw [q1] at hk
  refine e_J1_charAt_3b067.trans ?_
  refine (runs_stps (q' := (2, [.ref (200 + j), .int (nI k)], [.ref (200 + j), .int (nI k)], w)) 2 rfl).trans ?_
  refine (runs_stp (stp_SLen rfl hj)).trans ?_
  refine (runs_callS (n := 2) (as := [.int (nI k), .int (nI (stL.getD j 0))]) (rest := []) rfl rfl rfl (s_ck0 hk (by omega))).trans ?_
  refine (runs_stps (q' := (8, [.ref (200 + j), .int (nI k)], [.int (nI k), .ref (200 + j)], w)) 2 rfl).trans ?_
  refine (runs_stp (stp_SByt rfl hj hk (by omega))).trans ?_
  rw [q2 k (by omega)]
  refine (runs_stps (q' := (14, [.ref (200 + j), .int (nI k)], [.int (((nI ((wrd j).getD k 0) &&& 255).toUInt32 % 65536).toInt32)], w)) 3 rfl).trans ?_
  rw [low16 _ (by omega)]
  exact runs_rck rfl (pk_charN (by omega)).1
theorem s_charAt {j k : Nat} (hj : j < 6) (hk : k < (wrd j).length) : sem (d + 4) 200 [.ref (100 + j), .int (nI k)] w = some (some (.int (nI ((wrd j).getD k 0))), w) := by
  have q4 := (wrd_st j hj).2.2 k hk
  refine e_J0_charAt_5068e.trans ?_
  refine (runs_stps (q' := (1, [.ref (100 + j), .int (nI k)], [.ref (100 + j)], w)) 1 rfl).trans ?_
  refine (runs_callT (n := 0) (as := []) (rest := []) rfl rfl (bnd6 hj) (s_latin hj)).trans ?_
  refine (runs_stps (q' := (8, [.ref (100 + j), .int (nI k)], [.ref (100 + j)], w)) 2 rfl).trans ?_
  refine (runs_stp (stp_SVal rfl hj)).trans ?_
  refine (runs_stps (q' := (12, [.ref (100 + j), .int (nI k)], [.int (nI k), .ref (200 + j)], w)) 1 rfl).trans ?_
  refine (runs_callS (n := 2) (as := [.ref (200 + j), .int (nI k)]) (rest := []) rfl rfl rfl (s_char1 hj hk)).trans ?_
  exact runs_rck rfl (pk_charN (by omega)).1
theorem wl_len (s e : Nat) : (wl bt s e).length = e - s := by unfold wl; rw [List.length_map, List.length_range]
theorem wl_at {s e k : Nat} (h : k < e - s) : (wl bt s e)[k]? = some (bt (s + k)) := by
  unfold wl
  rw [List.getElem?_map, List.getElem?_range h]
  rfl
theorem l_isWord {s e j : Nat} (ho : okt bt n) (X : XT bt n w) (hj : j < 6) (he : e ≤ n) (hlen : e - s = (wrd j).length) (W4 : w.1 1 4 = nI s) : ∀ (m k : Nat), m + k = (wrd j).length → (∀ t, t < k → bt (s + t) = (wrd j).getD t 0) → runs (T_X3_isWord (sem (d + 4))) (20, [.ref 1, .ref (100 + j), .int (nI k)], [], w) = some (some (.int (b2i (decide (wl bt s e = wrd j)))), w) := by
  have h5 := wrd_len j hj
  have h3 := ho.1
  have hsc : sca (100 + j) := by
    unfold sca
    omega
  intro m
  induction m with
  | zero =>
    intro k hk hp
    have e1 : wl bt s e = wrd j := by
      apply List.ext_getElem?
      intro t
      rcases Nat.lt_or_ge t (e - s) with h | h
      · rw [wl_at h, hp t (by omega), List.getD_eq_getElem?_getD, List.getElem?_eq_getElem (by omega)]
        rfl
      · rw [List.getElem?_eq_none (by rw [wl_len]; exact h), List.getElem?_eq_none (by omega)]
    rw [b2i_t (decide_eq_true e1)]
    exact p_X3_isWord_20T_R hsc (s_slen hj) (nI_le (by omega) (by omega))
  | succ m ih =>
    intro k hk hp
    have b1 := s_byte (d := d + 3) (i := s + k) X ho (by omega)
    have b2 := s_charAt (d := d) (w := w) hj (k := k) (by omega)
    have q4 := (wrd_st j hj).2.2 k (by omega)
    have hb := ho.2 (s + k) (by omega)
    rw [← nI_add, ← W4] at b1
    by_cases hc : bt (s + k) = (wrd j).getD k 0
    · refine (p_X3_isWord_20FT_L20 hsc (s_slen hj) (nI_ge (by omega) (by omega)) b1 b2 (by rw [hc])).trans ?_
      rw [nI_1]
      exact ih (k + 1) (by omega) (fun t ht => by
        by_cases e1 : t = k
        · rw [e1]; exact hc
        · exact hp t (by omega))
    · have e1 : ¬ wl bt s e = wrd j := fun h => hc (by
        have h2 := wl_at (bt := bt) (s := s) (e := e) (k := k) (by omega)
        rw [h] at h2
        rw [List.getD_eq_getElem?_getD, h2]
        rfl)
      rw [b2i_f (decide_eq_false e1)]
      exact p_X3_isWord_20FF_R hsc (s_slen hj) (nI_ge (by omega) (by omega)) b1 b2 (fun h => hc ((nI_eq (by omega) (by omega)).mp h))
theorem s_isWord {s e j : Nat} (ho : okt bt n) (X : XT bt n w) (hj : j < 6) (hse : s ≤ e) (he : e ≤ n) (W4 : w.1 1 4 = nI s) (W2 : w.1 1 2 = nI e) : sem (d + 5) 35 [.ref 1, .ref (100 + j)] w = some (some (.int (b2i (decide (wl bt s e = wrd j)))), w) := by
  have h5 := wrd_len j hj
  have h3 := ho.1
  have hsc : sca (100 + j) := by
    unfold sca
    omega
  have e0 : (w.1 1 2) - (w.1 1 4) = nI (e - s) := by rw [W2, W4]; exact pk_sub hse
  by_cases hlen : e - s = (wrd j).length
  · exact e_X3_isWord.trans ((p_X3_isWord_0T_L20 hsc (s_slen hj) (by rw [e0, hlen])).trans (l_isWord (d := d) ho X hj he hlen W4 (wrd j).length 0 (by omega) (fun t ht => absurd ht (Nat.not_lt_zero _))))
  · have e1 : ¬ wl bt s e = wrd j := fun h => hlen (by rw [← h, wl_len])
    rw [b2i_f (decide_eq_false e1)]
    exact e_X3_isWord.trans (p_X3_isWord_0F_R hsc (s_slen hj) (by rw [e0]; exact fun h => hlen ((nI_eq (by omega) (by omega)).mp h)))
end XWORD

/-! the law's loop -/
theorem l_exit {L i : Nat} (hL : L ≤ 3584) (hi : i ≤ 3584) (h : L < i + 7) : nI L - 7 < nI i := by
  rcases Nat.lt_or_ge L 7 with g | g
  · have k : ∀ L : Nat, L < 7 → nI L - 7 < 0 := by decide +kernel
    have k1 := k L g
    have k2 := nI_pos (n := i) (by omega)
    rw [fa_lt] at *
    omega
  · obtain ⟨q, rfl⟩ : ∃ q, L = q + 7 := ⟨L - 7, by omega⟩
    have e : nI (q + 7) - 7 = nI q := by
      have e1 : nI q + nI 7 = nI (q + 7) := nI_add q 7
      rw [← e1]
      exact Int32.add_sub_cancel _ _
    rw [e]
    exact nI_lt (by omega) (by omega)
theorem l_stay {L i : Nat} (hL : L ≤ 3584) (h : i + 7 ≤ L) : ¬ nI L - 7 < nI i := by
  obtain ⟨q, rfl⟩ : ∃ q, L = q + 7 := ⟨L - 7, by omega⟩
  have e : nI (q + 7) - 7 = nI q := by
    have e1 : nI q + nI 7 = nI (q + 7) := nI_add q 7
    rw [← e1]
    exact Int32.add_sub_cancel _ _
  rw [e]
  exact nI_nlt (by omega) (by omega)
theorem l_cell {L i k : Nat} {z : Int32} (hz : z = nI k) (h : i + k < L) (hL : L ≤ 3584) : ¬ (nI i + z < 0 ∨ L ≤ (nI i + z).toNatClampNeg) := by
  rw [hz, nI_add, nI_clamp (by omega)]
  rintro (g | g)
  · exact nI_pos (by omega) g
  · omega
theorem l_law {L : Nat} {xs : Nat → Int32} (hL : L ≤ 3584) : ∀ (m i : Nat) (w : Wd), L ≤ i + 7 * m → i ≤ 3584 → Jn w → ∃ w', runs (T_law L xs (sem 40)) (18, [.ref 400, .ref 0, .ref 34, .int (nI i)], [], w) = some (some (.int 1), w') := by
  intro m
  induction m with
  | zero =>
    intro i w hm hi J
    exact ⟨w, lw_end (l_exit hL hi (by omega))⟩
  | succ m ih =>
    intro i w hm hi J
    rcases Nat.lt_or_ge L (i + 7) with hx | hx
    · exact ⟨w, lw_end (l_exit hL hi hx)⟩
    · have e7 : nI i + 7 = nI (i + 7) := nI_add i 7
      have hc0 : ¬ (nI i < 0 ∨ L ≤ (nI i).toNatClampNeg) := by
        rw [nI_clamp (by omega)]
        rintro (g | g)
        · exact nI_pos (by omega) g
        · omega
      have hd := lw_head (ex := sem 40) (xs := xs) (w := w) (l_stay hL hx) hc0
      have nx : ∀ w2, Jn w2 → runs (T_law L xs (sem 40)) (18, [.ref 400, .ref 0, .ref 34, .int (nI i)], [], w) = runs (T_law L xs (sem 40)) (18, [.ref 400, .ref 0, .ref 34, .int (nI i + 7)], [], w2) → ∃ w', runs (T_law L xs (sem 40)) (18, [.ref 400, .ref 0, .ref 34, .int (nI i)], [], w) = some (some (.int 1), w') := by
        intro w2 J2 e
        rw [e7] at e
        obtain ⟨w', h⟩ := ih (i + 7) w2 (by omega) (by omega) J2
        exact ⟨w', e.trans h⟩
      have g1 := l_cell (i := i) (k := 1) (z := 1) rfl (show i + 1 < L by omega) hL
      have g2 := l_cell (i := i) (k := 2) (z := 2) rfl (show i + 2 < L by omega) hL
      have g3 := l_cell (i := i) (k := 3) (z := 3) rfl (show i + 3 < L by omega) hL
      have g4 := l_cell (i := i) (k := 4) (z := 4) rfl (show i + 4 < L by omega) hL
      have g5 := l_cell (i := i) (k := 5) (z := 5) rfl (show i + 5 < L by omega) hL
      have g6 := l_cell (i := i) (k := 6) (z := 6) rfl (show i + 6 < L by omega) hL
      generalize xs (nI i).toNatClampNeg &&& 31 = kk at hd
      by_cases c0 : kk = 0
      · rw [c0] at hd
        obtain ⟨v, u1, u2, e1, e2, J2⟩ := agr_type J
        exact nx u2 J2 (hd.trans (lw_0 g1 g2 g3 e1 e2))
      by_cases c1 : kk = 1
      · rw [c1] at hd
        obtain ⟨v, u1, u2, e1, e2, J2⟩ := agr_clear J
        exact nx u2 J2 (hd.trans (lw_1  e1 e2))
      by_cases c2 : kk = 2
      · rw [c2] at hd
        obtain ⟨v, u1, u2, e1, e2, J2⟩ := agr_school J
        exact nx u2 J2 (hd.trans (lw_2  e1 e2))
      by_cases c3 : kk = 3
      · rw [c3] at hd
        obtain ⟨v, u1, u2, e1, e2, J2⟩ := agr_spell (x1 := xs (nI i + 1).toNatClampNeg) (x2 := xs (nI i + 2).toNatClampNeg) J
        exact nx u2 J2 (hd.trans (lw_3 g1 g2 e1 e2))
      by_cases c4 : kk = 4
      · rw [c4] at hd
        obtain ⟨v, u1, u2, e1, e2, J2⟩ := agr_thing (x1 := xs (nI i + 1).toNatClampNeg) (x2 := xs (nI i + 2).toNatClampNeg) J
        exact nx u2 J2 (hd.trans (lw_4 g1 g2 e1 e2))
      by_cases c5 : kk = 5
      · rw [c5] at hd
        obtain ⟨v, u1, u2, e1, e2, J2⟩ := agr_layer (x1 := xs (nI i + 1).toNatClampNeg) (x2 := xs (nI i + 2).toNatClampNeg) J
        exact nx u2 J2 (hd.trans (lw_5 g1 g2 e1 e2))
      by_cases c6 : kk = 6
      · rw [c6] at hd
        obtain ⟨v, u1, u2, e1, e2, J2⟩ := agr_pupil (x1 := xs (nI i + 1).toNatClampNeg) J
        exact nx u2 J2 (hd.trans (lw_6 g1 e1 e2))
      by_cases c7 : kk = 7
      · rw [c7] at hd
        obtain ⟨v, u1, u2, e1, e2, J2⟩ := agr_lay (x1 := xs (nI i + 1).toNatClampNeg) (x2 := xs (nI i + 2).toNatClampNeg) (x3 := xs (nI i + 3).toNatClampNeg) J
        exact nx u2 J2 (hd.trans (lw_7 g1 g2 g3 e1 e2))
      by_cases c8 : kk = 8
      · rw [c8] at hd
        obtain ⟨v, u1, u2, e1, e2, J2⟩ := agr_lift (x1 := xs (nI i + 1).toNatClampNeg) (x2 := xs (nI i + 2).toNatClampNeg) J
        exact nx u2 J2 (hd.trans (lw_8 g1 g2 e1 e2))
      by_cases c9 : kk = 9
      · rw [c9] at hd
        obtain ⟨v, u1, u2, e1, e2, J2⟩ := agr_swap (x1 := xs (nI i + 1).toNatClampNeg) (x2 := xs (nI i + 2).toNatClampNeg) J
        exact nx u2 J2 (hd.trans (lw_9 g1 g2 e1 e2))
      by_cases c10 : kk = 10
      · rw [c10] at hd
        obtain ⟨v, u1, u2, e1, e2, J2⟩ := agr_copy (x1 := xs (nI i + 1).toNatClampNeg) (x2 := xs (nI i + 2).toNatClampNeg) (x3 := xs (nI i + 3).toNatClampNeg) J
        exact nx u2 J2 (hd.trans (lw_10 g1 g2 g3 e1 e2))
      by_cases c11 : kk = 11
      · rw [c11] at hd
        obtain ⟨v, u1, u2, e1, e2, J2⟩ := agr_undo J
        exact nx u2 J2 (hd.trans (lw_11  e1 e2))
      by_cases c12 : kk = 12
      · rw [c12] at hd
        obtain ⟨v, u1, u2, e1, e2, J2⟩ := agr_now (x1 := xs (nI i + 1).toNatClampNeg) J
        exact nx u2 J2 (hd.trans (lw_12 g1 e1 e2))
      by_cases c13 : kk = 13
      · rw [c13] at hd
        obtain ⟨v, u1, u2, e1, e2, J2⟩ := agr_cheapest (x1 := xs (nI i + 1).toNatClampNeg) (x2 := xs (nI i + 2).toNatClampNeg) (x3 := xs (nI i + 3).toNatClampNeg) (x4 := xs (nI i + 4).toNatClampNeg) J
        exact nx u2 J2 (hd.trans (lw_13 g1 g2 g3 g4 e1 e2))
      by_cases c14 : kk = 14
      · rw [c14] at hd
        obtain ⟨v, u1, u2, e1, e2, J2⟩ := agr_takes (x1 := xs (nI i + 1).toNatClampNeg) (x2 := xs (nI i + 2).toNatClampNeg) J
        exact nx u2 J2 (hd.trans (lw_14 g1 g2 e1 e2))
      by_cases c15 : kk = 15
      · rw [c15] at hd
        obtain ⟨v, u1, u2, e1, e2, J2⟩ := agr_learn (x1 := xs (nI i + 1).toNatClampNeg) (x2 := xs (nI i + 2).toNatClampNeg) J
        exact nx u2 J2 (hd.trans (lw_15 g1 g2 e1 e2))
      by_cases c16 : kk = 16
      · rw [c16] at hd
        obtain ⟨v, u1, u2, e1, e2, J2⟩ := agr_saw (x1 := xs (nI i + 1).toNatClampNeg) (x2 := xs (nI i + 2).toNatClampNeg) J
        exact nx u2 J2 (hd.trans (lw_16 g1 g2 e1 e2))
      by_cases c17 : kk = 17
      · rw [c17] at hd
        obtain ⟨v, u1, u2, e1, e2, J2⟩ := agr_forget J
        exact nx u2 J2 (hd.trans (lw_17  e1 e2))
      by_cases c18 : kk = 18
      · rw [c18] at hd
        obtain ⟨v, u1, u2, e1, e2, J2⟩ := agr_could J
        exact nx u2 J2 (hd.trans (lw_18  e1 e2))
      by_cases c19 : kk = 19
      · rw [c19] at hd
        obtain ⟨v, u1, u2, e1, e2, J2⟩ := agr_under (x1 := xs (nI i + 1).toNatClampNeg) J
        exact nx u2 J2 (hd.trans (lw_19 g1 e1 e2))
      by_cases c20 : kk = 20
      · rw [c20] at hd
        obtain ⟨v, u1, u2, e1, e2, J2⟩ := agr_lifted J
        exact nx u2 J2 (hd.trans (lw_20  e1 e2))
      by_cases c21 : kk = 21
      · rw [c21] at hd
        obtain ⟨v, u1, u2, e1, e2, J2⟩ := agr_broom (x1 := xs (nI i + 1).toNatClampNeg) (x2 := xs (nI i + 2).toNatClampNeg) (x3 := xs (nI i + 3).toNatClampNeg) (x4 := xs (nI i + 4).toNatClampNeg) (x5 := xs (nI i + 5).toNatClampNeg) (x6 := xs (nI i + 6).toNatClampNeg) J
        exact nx u2 J2 (hd.trans (lw_21 g1 g2 g3 g4 g5 g6 e1 e2))
      by_cases c22 : kk = 22
      · rw [c22] at hd
        obtain ⟨v, u1, u2, e1, e2, J2⟩ := agr_odds (x1 := xs (nI i + 1).toNatClampNeg) (x2 := xs (nI i + 2).toNatClampNeg) (x3 := xs (nI i + 3).toNatClampNeg) J
        exact nx u2 J2 (hd.trans (lw_22 g1 g2 g3 e1 e2))
      by_cases c23 : kk = 23
      · rw [c23] at hd
        obtain ⟨v, u1, u2, e1, e2, J2⟩ := agr_rate (x1 := xs (nI i + 1).toNatClampNeg) (x2 := xs (nI i + 2).toNatClampNeg) J
        exact nx u2 J2 (hd.trans (lw_23 g1 g2 e1 e2))
      by_cases c24 : kk = 24
      · rw [c24] at hd
        obtain ⟨v, u1, u2, e1, e2, J2⟩ := agr_keep (x1 := xs (nI i + 1).toNatClampNeg) J
        exact nx u2 J2 (hd.trans (lw_24 g1 e1 e2))
      by_cases c25 : kk = 25
      · rw [c25] at hd
        obtain ⟨v, u1, u2, e1, e2, J2⟩ := agr_back (x1 := xs (nI i + 1).toNatClampNeg) J
        exact nx u2 J2 (hd.trans (lw_25 g1 e1 e2))
      by_cases c26 : kk = 26
      · rw [c26] at hd
        obtain ⟨v, u1, u2, e1, e2, J2⟩ := agr_count (x1 := xs (nI i + 1).toNatClampNeg) J
        exact nx u2 J2 (hd.trans (lw_26 g1 e1 e2))
      by_cases c27 : kk = 27
      · rw [c27] at hd
        obtain ⟨v, u1, u2, e1, e2, J2⟩ := agr_trace J
        exact nx u2 J2 (hd.trans (lw_27  e1 e2))
      have hk : tsel kk lwC 1008 = 1008 := by simp only [lwC, tsel, c0, c1, c2, c3, c4, c5, c6, c7, c8, c9, c10, c11, c12, c13, c14, c15, c16, c17, c18, c19, c20, c21, c22, c23, c24, c25, c26, c27, if_false]
      rw [hk] at hd
      exact nx w J (hd.trans lw_next)

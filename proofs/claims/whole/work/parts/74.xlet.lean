/-! the class's Reader: a row of letters; a token -/
section XLET
variable {d : Nat} {bt : Nat → Nat} {n : Nat}
theorem l_letters {s : Nat} (ho : okt bt n) : ∀ (m i : Nat) (w : Wd), m + i = n → s ≤ i → XT bt n w → w.1 1 4 = nI s → w.1 1 2 = nI i →
    ∃ w2, runs (T_X3_readLetters (sem (d + 5))) (0, [.ref 1], [], w) = some (none, w2) ∧ tkf w w2 ∧ w2.1 1 4 = nI s ∧ w2.1 1 2 = nI (rE isLt bt n i) ∧ w2.1 1 3 = nI (wdK (wl bt s (rE isLt bt n i))) := by
  have h3 := ho.1
  intro m
  induction m with
  | zero =>
    intro i w hi hsi X W4 W2
    have hin : i = n := by omega
    have k1 : (w.1 1 1) ≤ (w.1 1 2) := by rw [X.1, W2]; exact nI_le (by omega) (by omega)
    rw [rE_ge (by omega)]
    have iw := fun j (hj : j < 6) => s_isWord (d := d) (e := i) ho X hj hsi (by omega) W4 W2
    have f0 := iw 0 (by decide)
    by_cases hw0 : wl bt s i = wrd 0
    · rw [b2i_t (decide_eq_true hw0)] at f0
      refine ⟨_, p_X3_readLetters_0TF_R k1  f0 (by decide), tkf.up w _ (by omega), ?_, ?_, ?_⟩
      · rw [rd_k (by decide)]; exact W4
      · rw [rd_k (by decide)]; exact W2
      · rw [rd_e]; unfold wdK; rw [if_pos hw0]; rfl
    rw [b2i_f (decide_eq_false hw0)] at f0
    have f1 := iw 1 (by decide)
    by_cases hw1 : wl bt s i = wrd 1
    · rw [b2i_t (decide_eq_true hw1)] at f1
      refine ⟨_, p_X3_readLetters_0TTF_R k1 f0 rfl f1 (by decide), tkf.up w _ (by omega), ?_, ?_, ?_⟩
      · rw [rd_k (by decide)]; exact W4
      · rw [rd_k (by decide)]; exact W2
      · rw [rd_e]; unfold wdK; rw [if_neg hw0, if_pos hw1]; rfl
    rw [b2i_f (decide_eq_false hw1)] at f1
    have f2 := iw 2 (by decide)
    by_cases hw2 : wl bt s i = wrd 2
    · rw [b2i_t (decide_eq_true hw2)] at f2
      refine ⟨_, p_X3_readLetters_0TTTF_R k1 f0 rfl f1 rfl f2 (by decide), tkf.up w _ (by omega), ?_, ?_, ?_⟩
      · rw [rd_k (by decide)]; exact W4
      · rw [rd_k (by decide)]; exact W2
      · rw [rd_e]; unfold wdK; rw [if_neg hw0, if_neg hw1, if_pos hw2]; rfl
    rw [b2i_f (decide_eq_false hw2)] at f2
    have f3 := iw 3 (by decide)
    by_cases hw3 : wl bt s i = wrd 3
    · rw [b2i_t (decide_eq_true hw3)] at f3
      refine ⟨_, p_X3_readLetters_0TTTTF_R k1 f0 rfl f1 rfl f2 rfl f3 (by decide), tkf.up w _ (by omega), ?_, ?_, ?_⟩
      · rw [rd_k (by decide)]; exact W4
      · rw [rd_k (by decide)]; exact W2
      · rw [rd_e]; unfold wdK; rw [if_neg hw0, if_neg hw1, if_neg hw2, if_pos hw3]; rfl
    rw [b2i_f (decide_eq_false hw3)] at f3
    have f4 := iw 4 (by decide)
    by_cases hw4 : wl bt s i = wrd 4
    · rw [b2i_t (decide_eq_true hw4)] at f4
      refine ⟨_, p_X3_readLetters_0TTTTTF_R k1 f0 rfl f1 rfl f2 rfl f3 rfl f4 (by decide), tkf.up w _ (by omega), ?_, ?_, ?_⟩
      · rw [rd_k (by decide)]; exact W4
      · rw [rd_k (by decide)]; exact W2
      · rw [rd_e]; unfold wdK; rw [if_neg hw0, if_neg hw1, if_neg hw2, if_neg hw3, if_pos hw4]; rfl
    rw [b2i_f (decide_eq_false hw4)] at f4
    have f5 := iw 5 (by decide)
    by_cases hw5 : wl bt s i = wrd 5
    · rw [b2i_t (decide_eq_true hw5)] at f5
      refine ⟨_, p_X3_readLetters_0TTTTTTF_R k1 f0 rfl f1 rfl f2 rfl f3 rfl f4 rfl f5 (by decide), tkf.up w _ (by omega), ?_, ?_, ?_⟩
      · rw [rd_k (by decide)]; exact W4
      · rw [rd_k (by decide)]; exact W2
      · rw [rd_e]; unfold wdK; rw [if_neg hw0, if_neg hw1, if_neg hw2, if_neg hw3, if_neg hw4, if_pos hw5]; rfl
    rw [b2i_f (decide_eq_false hw5)] at f5
    refine ⟨_, p_X3_readLetters_0TTTTTTT_R k1 f0 rfl f1 rfl f2 rfl f3 rfl f4 rfl f5 rfl, tkf.up w _ (by omega), ?_, ?_, ?_⟩
    · rw [rd_k (by decide)]; exact W4
    · rw [rd_k (by decide)]; exact W2
    · rw [rd_e]; unfold wdK; rw [if_neg hw0, if_neg hw1, if_neg hw2, if_neg hw3, if_neg hw4, if_neg hw5]; rfl
  | succ m ih =>
    intro i w hi hsi X W4 W2
    have hin : i < n := by omega
    have hbi := ho.2 i hin
    have k1 : ¬ (w.1 1 1) ≤ (w.1 1 2) := by rw [X.1, W2]; exact nI_ge (by omega) (by omega)
    have bi := s_byte (d := d + 4) X ho hin
    rw [← W2] at bi
    have lt := s_isLetter (d := d + 4) (b := bt i) (w := w) (by omega)
    cases hd : isLt (bt i) with
    | true =>
      rw [hd] at lt
      rw [rE_t hin hd]
      have t := p_X3_readLetters_0FF_L0 k1 bi lt (by decide)
      rw [W2, nI_1] at t
      have f1 := tkf.up w (k := 2) (nI (i + 1)) (by omega)
      obtain ⟨w2, g1, g2, g3⟩ := ih (i + 1) _ (by omega) (by omega) (X.tkf f1) (by rw [rd_k (by decide)]; exact W4) rd_e
      exact ⟨w2, t.trans g1, f1.trans g2, g3⟩
    | false =>
      rw [hd] at lt
      rw [rE_f hin hd]
      have iw := fun j (hj : j < 6) => s_isWord (d := d) (e := i) ho X hj hsi (by omega) W4 W2
      have f0 := iw 0 (by decide)
      by_cases hw0 : wl bt s i = wrd 0
      · rw [b2i_t (decide_eq_true hw0)] at f0
        refine ⟨_, p_X3_readLetters_0FTF_R k1 bi lt rfl  f0 (by decide), tkf.up w _ (by omega), ?_, ?_, ?_⟩
        · rw [rd_k (by decide)]; exact W4
        · rw [rd_k (by decide)]; exact W2
        · rw [rd_e]; unfold wdK; rw [if_pos hw0]; rfl
      rw [b2i_f (decide_eq_false hw0)] at f0
      have f1 := iw 1 (by decide)
      by_cases hw1 : wl bt s i = wrd 1
      · rw [b2i_t (decide_eq_true hw1)] at f1
        refine ⟨_, p_X3_readLetters_0FTTF_R k1 bi lt rfl f0 rfl f1 (by decide), tkf.up w _ (by omega), ?_, ?_, ?_⟩
        · rw [rd_k (by decide)]; exact W4
        · rw [rd_k (by decide)]; exact W2
        · rw [rd_e]; unfold wdK; rw [if_neg hw0, if_pos hw1]; rfl
      rw [b2i_f (decide_eq_false hw1)] at f1
      have f2 := iw 2 (by decide)
      by_cases hw2 : wl bt s i = wrd 2
      · rw [b2i_t (decide_eq_true hw2)] at f2
        refine ⟨_, p_X3_readLetters_0FTTTF_R k1 bi lt rfl f0 rfl f1 rfl f2 (by decide), tkf.up w _ (by omega), ?_, ?_, ?_⟩
        · rw [rd_k (by decide)]; exact W4
        · rw [rd_k (by decide)]; exact W2
        · rw [rd_e]; unfold wdK; rw [if_neg hw0, if_neg hw1, if_pos hw2]; rfl
      rw [b2i_f (decide_eq_false hw2)] at f2
      have f3 := iw 3 (by decide)
      by_cases hw3 : wl bt s i = wrd 3
      · rw [b2i_t (decide_eq_true hw3)] at f3
        refine ⟨_, p_X3_readLetters_0FTTTTF_R k1 bi lt rfl f0 rfl f1 rfl f2 rfl f3 (by decide), tkf.up w _ (by omega), ?_, ?_, ?_⟩
        · rw [rd_k (by decide)]; exact W4
        · rw [rd_k (by decide)]; exact W2
        · rw [rd_e]; unfold wdK; rw [if_neg hw0, if_neg hw1, if_neg hw2, if_pos hw3]; rfl
      rw [b2i_f (decide_eq_false hw3)] at f3
      have f4 := iw 4 (by decide)
      by_cases hw4 : wl bt s i = wrd 4
      · rw [b2i_t (decide_eq_true hw4)] at f4
        refine ⟨_, p_X3_readLetters_0FTTTTTF_R k1 bi lt rfl f0 rfl f1 rfl f2 rfl f3 rfl f4 (by decide), tkf.up w _ (by omega), ?_, ?_, ?_⟩
        · rw [rd_k (by decide)]; exact W4
        · rw [rd_k (by decide)]; exact W2
        · rw [rd_e]; unfold wdK; rw [if_neg hw0, if_neg hw1, if_neg hw2, if_neg hw3, if_pos hw4]; rfl
      rw [b2i_f (decide_eq_false hw4)] at f4
      have f5 := iw 5 (by decide)
      by_cases hw5 : wl bt s i = wrd 5
      · rw [b2i_t (decide_eq_true hw5)] at f5
        refine ⟨_, p_X3_readLetters_0FTTTTTTF_R k1 bi lt rfl f0 rfl f1 rfl f2 rfl f3 rfl f4 rfl f5 (by decide), tkf.up w _ (by omega), ?_, ?_, ?_⟩
        · rw [rd_k (by decide)]; exact W4
        · rw [rd_k (by decide)]; exact W2
        · rw [rd_e]; unfold wdK; rw [if_neg hw0, if_neg hw1, if_neg hw2, if_neg hw3, if_neg hw4, if_pos hw5]; rfl
      rw [b2i_f (decide_eq_false hw5)] at f5
      refine ⟨_, p_X3_readLetters_0FTTTTTTT_R k1 bi lt rfl f0 rfl f1 rfl f2 rfl f3 rfl f4 rfl f5 rfl, tkf.up w _ (by omega), ?_, ?_, ?_⟩
      · rw [rd_k (by decide)]; exact W4
      · rw [rd_k (by decide)]; exact W2
      · rw [rd_e]; unfold wdK; rw [if_neg hw0, if_neg hw1, if_neg hw2, if_neg hw3, if_neg hw4, if_neg hw5]; rfl
theorem s_readLetters {s : Nat} {w : Wd} (ho : okt bt n) (hs : s ≤ n) (X : XT bt n w) (W4 : w.1 1 4 = nI s) (W2 : w.1 1 2 = nI s) :
    ∃ w2, sem (d + 6) 34 [.ref 1] w = some (none, w2) ∧ tkf w w2 ∧ w2.1 1 4 = nI s ∧ w2.1 1 2 = nI (rE isLt bt n s) ∧ w2.1 1 3 = nI (wdK (wl bt s (rE isLt bt n s))) := by
  obtain ⟨w2, g1, g2⟩ := l_letters (d := d) ho (n - s) s w (by omega) (Nat.le_refl _) X W4 W2
  exact ⟨w2, e_X3_readLetters.trans g1, g2⟩
theorem l_token (ho : okt bt n) : ∀ (m i : Nat) (w : Wd), m + i = n → XT bt n w → w.1 1 2 = nI i →
    ∃ w2, runs (T_X3_readToken (sem (d + 6))) (0, [.ref 1, .null], [], w) = some (none, w2) ∧ tkf w w2 ∧ w2.1 1 4 = nI (tkS bt n i) ∧ w2.1 1 2 = nI (tkE bt n i) ∧ w2.1 1 3 = nI (tkK bt n i) ∧ (tkK bt n i = 3 → w2.1 1 5 = nI (tkV bt n i)) := by
  have h3 := ho.1
  intro m
  induction m with
  | zero =>
    intro i w hi X W2
    have hin : i = n := by omega
    have k1 : (w.1 1 1) ≤ (w.1 1 2) := by rw [X.1, W2]; exact nI_le (by omega) (by omega)
    have k2 : ¬ (w.1 1 2) < (w.1 1 1) := by rw [X.1, W2]; exact nI_nlt (by omega) (by omega)
    have e1 : tkS bt n i = i := rE_ge (by omega)
    have e2 : tkE bt n i = i := by unfold tkE tqE; rw [e1, if_pos (by omega)]
    have e3 : tkK bt n i = 1 := by unfold tkK tqK; rw [e1, if_pos (by omega)]
    rw [e1, e2, e3]
    refine ⟨_, p_X3_readToken_0TF_R k1 k2, (tkf.up w _ (by omega)).trans (tkf.up _ _ (by omega)), ?_, ?_, rd_e, fun h => absurd h (by decide)⟩
    · rw [rd_k (by decide), rd_e, W2]
    · rw [rd_k (by decide), rd_k (by decide), W2]
  | succ m ih =>
    intro i w hi X W2
    have hin : i < n := by omega
    have hbi := ho.2 i hin
    have k1 : ¬ (w.1 1 1) ≤ (w.1 1 2) := by rw [X.1, W2]; exact nI_ge (by omega) (by omega)
    have k2 : (w.1 1 2) < (w.1 1 1) := by rw [X.1, W2]; exact nI_lt (by omega) (by omega)
    have bi := s_byte (d := d + 5) X ho hin
    have bi0 := bi
    rw [← W2] at bi
    by_cases hb : bt i = 32
    · have e1 : tkS bt n i = tkS bt n (i + 1) := rE_t hin (decide_eq_true hb)
      have e2 : tkE bt n i = tkE bt n (i + 1) := by unfold tkE; rw [e1]
      have e3 : tkK bt n i = tkK bt n (i + 1) := by unfold tkK; rw [e1]
      have e4 : tkV bt n i = tkV bt n (i + 1) := by unfold tkV; rw [e1]
      rw [e1, e2, e3, e4]
      have t := p_X3_readToken_0FF_L0 k1 bi (by rw [hb]; rfl)
      rw [W2, nI_1] at t
      have f1 := tkf.up w (k := 2) (nI (i + 1)) (by omega)
      obtain ⟨w2, g1, g2, g3⟩ := ih (i + 1) _ (by omega) (X.tkf f1) rd_e
      exact ⟨w2, t.trans g1, f1.trans g2, g3⟩
    · have e1 : tkS bt n i = i := rE_f hin (decide_eq_false hb)
      have e2 : tkE bt n i = tqE bt n i := by unfold tkE; rw [e1]
      have e3 : tkK bt n i = tqK bt n i := by unfold tkK; rw [e1]
      have e4 : tkV bt n i = vE bt n i 0 := by unfold tkV; rw [e1]
      rw [e1, e2, e3, e4]
      have k3 : ¬ nI (bt i) = 32 := fun h => hb ((nI_eq (b := 32) (by omega) (by decide)).mp h)
      have f4 := tkf.up w (k := 4) (w.1 1 2) (by omega)
      have X4 := X.tkf f4
      have bi2 := s_byte (d := d + 5) X4 ho hin
      rw [← W2] at bi2
      have V4 : (updI w 1 4 (w.1 1 2)).1 1 4 = nI i := by rw [rd_e, W2]
      have V2 : (updI w 1 4 (w.1 1 2)).1 1 2 = nI i := by rw [rd_k (by decide), W2]
      have dg := s_isDigit (d := d + 5) (b := bt i) (w := updI w 1 4 (w.1 1 2)) (by omega)
      have lt := s_isLetter (d := d + 5) (b := bt i) (w := updI w 1 4 (w.1 1 2)) (by omega)
      cases hd : isDg (bt i) with
      | true =>
        rw [hd] at dg
        obtain ⟨w2, g1, g2, g3, g4, g5, g6⟩ := s_readDigits (d := d + 4) ho hin X4 V4 V2
        have e5 : tqE bt n i = rE isDg bt n i := by unfold tqE; rw [if_neg (by omega), if_pos hd]
        have e6 : tqK bt n i = dgK bt i (rE isDg bt n i) (vE bt n i 0) := by unfold tqK; rw [if_neg (by omega), if_pos hd]
        rw [e5, e6]
        exact ⟨w2, p_X3_readToken_0FTTF_R k1 bi k3 k2 bi2 dg (by decide) g1, f4.trans g2, g3, g4, g6, fun _ => g5⟩
      | false =>
        rw [hd] at dg
        have nd : ¬ isDg (bt i) = true := by rw [hd]; decide
        cases hl : isLt (bt i) with
        | true =>
          rw [hl] at lt
          obtain ⟨w2, g1, g2, g3, g4, g5⟩ := s_readLetters (d := d) ho (Nat.le_of_lt hin) X4 V4 V2
          have e5 : tqE bt n i = rE isLt bt n i := by unfold tqE; rw [if_neg (by omega), if_neg nd, if_pos hl]
          have e6 : tqK bt n i = wdK (wl bt i (rE isLt bt n i)) := by unfold tqK; rw [if_neg (by omega), if_neg nd, if_pos hl]
          rw [e5, e6]
          refine ⟨w2, p_X3_readToken_0FTTTF_R k1 bi k3 k2 bi2 dg rfl lt (by decide) g1, f4.trans g2, g3, g4, g5, fun h => absurd h ?_⟩
          unfold wdK
          repeat' split
          all_goals decide
        | false =>
          rw [hl] at lt
          have nl2 : ¬ isLt (bt i) = true := by rw [hl]; decide
          have e5 : tqE bt n i = i + 1 := by unfold tqE; rw [if_neg (by omega), if_neg nd, if_neg nl2]
          rw [e5]
          by_cases h59 : bt i = 59
          · have e6 : tqK bt n i = 2 := by unfold tqK; rw [if_neg (by omega), if_neg nd, if_neg nl2, if_pos h59]
            rw [e6]
            refine ⟨_, p_X3_readToken_0FTTTTF_R k1 bi k3 k2 bi2 dg rfl lt rfl (by rw [h59]; rfl), f4.trans ((tkf.up _ _ (by omega)).trans (tkf.up _ _ (by omega))), ?_, ?_, ?_, fun h => absurd h (by decide)⟩
            · rw [rd_k (by decide), rd_k (by decide)]; exact V4
            · rw [rd_e, V2, nI_1]
            · rw [rd_k (by decide), rd_e]; rfl
          · have e6 : tqK bt n i = 0 := by unfold tqK; rw [if_neg (by omega), if_neg nd, if_neg nl2, if_neg h59]
            rw [e6]
            refine ⟨_, p_X3_readToken_0FTTTTT_R k1 bi k3 k2 bi2 dg rfl lt rfl (fun h => h59 ((nI_eq (b := 59) (by omega) (by decide)).mp h)), f4.trans ((tkf.up _ _ (by omega)).trans (tkf.up _ _ (by omega))), ?_, ?_, ?_, fun h => absurd h (by decide)⟩
            · rw [rd_k (by decide), rd_k (by decide)]; exact V4
            · rw [rd_e, V2, nI_1]
            · rw [rd_k (by decide), rd_e]; rfl
theorem s_readToken {i : Nat} {w : Wd} (ho : okt bt n) (X : XT bt n w) (hi : i ≤ n) (W2 : w.1 1 2 = nI i) :
    ∃ w2, sem (d + 7) 32 [.ref 1] w = some (none, w2) ∧ tkf w w2 ∧ w2.1 1 4 = nI (tkS bt n i) ∧ w2.1 1 2 = nI (tkE bt n i) ∧ w2.1 1 3 = nI (tkK bt n i) ∧ (tkK bt n i = 3 → w2.1 1 5 = nI (tkV bt n i)) := by
  obtain ⟨w2, g1, g2⟩ := l_token (d := d) ho (n - i) i w (by omega) X W2
  exact ⟨w2, e_X3_readToken.trans g1, g2⟩
/-- a token takes a byte or more, but for the last -/
theorem tk_adv {i : Nat} (hi : i ≤ n) : i ≤ tkS bt n i ∧ tkS bt n i ≤ tkE bt n i ∧ tkE bt n i ≤ n ∧ (tkK bt n i = 1 → tkS bt n i = n) ∧ (tkK bt n i ≠ 1 → i < tkE bt n i) := by
  obtain ⟨h1, h2, h3, h4⟩ := rE_in (P := isBl) (bt := bt) (n := n) (n - i) i (by omega)
  unfold tkE tkK tqE tqK
  have e1 : tkS bt n i = rE isBl bt n i := rfl
  rw [← e1] at h1 h2 h3 h4
  generalize tkS bt n i = s at *
  have d1 := rE_in (P := isDg) (bt := bt) (n := n) (n - s) s (by omega)
  have l1 := rE_in (P := isLt) (bt := bt) (n := n) (n - s) s (by omega)
  by_cases hn : n ≤ s
  · rw [if_pos hn, if_pos hn]
    exact ⟨h1, Nat.le_refl _, h2, fun _ => by omega, fun h => absurd rfl h⟩
  · rw [if_neg hn, if_neg hn]
    cases hd : isDg (bt s) with
    | true =>
      have k1 : s < rE isDg bt n s := by
        rw [rE_t (by omega) hd]
        have := rE_in (P := isDg) (bt := bt) (n := n) (n - (s + 1)) (s + 1) (by omega)
        omega
      rw [if_pos rfl, if_pos rfl]
      refine ⟨h1, by omega, d1.2.1, fun h => absurd h ?_, fun _ => by omega⟩
      unfold dgK
      split <;> decide
    | false =>
      rw [if_neg (show ¬ (false = true) by decide), if_neg (show ¬ (false = true) by decide)]
      cases hl : isLt (bt s) with
      | true =>
        have k1 : s < rE isLt bt n s := by
          rw [rE_t (by omega) hl]
          have := rE_in (P := isLt) (bt := bt) (n := n) (n - (s + 1)) (s + 1) (by omega)
          omega
        rw [if_pos rfl, if_pos rfl]
        refine ⟨h1, by omega, l1.2.1, fun h => absurd h ?_, fun _ => by omega⟩
        unfold wdK
        repeat' split
        all_goals decide
      | false =>
        rw [if_neg (show ¬ (false = true) by decide), if_neg (show ¬ (false = true) by decide)]
        refine ⟨h1, by omega, by omega, fun h => absurd h ?_, fun _ => by omega⟩
        split <;> decide
end XLET

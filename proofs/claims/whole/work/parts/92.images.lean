/-! clear, keep, back, rate agree -/
section IMAGES
variable {p : Nat} {c : Nat → Nat → Nat} {rs : Nat → List Nat} {sp : Nat} {us : List (Nat × List Nat × Nat)} {im : Nat → Option ((Nat → List Nat) × Nat)} {ht : List (Nat × Nat)} {bt : Nat → Nat} {n : Nat} {tr : Int64} {w w2 : Wd}
theorem XR.txt {bt2 : Nat → Nat} {n2 : Nat} (hp : scp p) (X : XR p c rs sp us im ht bt n tr w) (f : frm 1 3 w w2) (T : XT bt2 n2 w2) : XR p c rs sp us im ht bt2 n2 tr w2 := by
  obtain ⟨x1, x2, x3, x4, x5, x6, x7⟩ := X
  refine ⟨x1.of hp (fun q h1 _ => (f q (by omega)).1), x2.of (fun q _ h2 => (f q (by omega)).1), ?_, T, ?_, ?_, ?_⟩
  · unfold XHt at *
    rw [(f 15 (by omega)).1, (f 16 (by omega)).1, (f 17 (by omega)).1]
    exact x3
  · rw [(f 19 (by omega)).2]; exact x5
  · rw [(f 0 (by omega)).1]; exact x6
  · rw [(f 0 (by omega)).1]; exact x7
/-- what typing changes at the reference -/
def tch (w w2 : Wd) : Prop := (∀ q, q ≠ 34 → q ≠ 35 → w2.1 q = w.1 q) ∧ (∀ j, j ≠ 0 → j ≠ 3 → w2.1 34 j = w.1 34 j) ∧ w2.2 = w.2
theorem MR.txt {bt2 : Nat → Nat} {n2 : Nat} (M : MR c rs sp us im ht bt n tr w) (h : tch w w2) (T : MT bt2 n2 w2) : MR c rs sp us im ht bt2 n2 tr w2 := by
  obtain ⟨h1, h2, h3⟩ := h
  obtain ⟨m1, m2, m3, m4, m5, m6, m7, m8, m9⟩ := M
  refine ⟨?_, ?_, ?_, ?_, ?_, T, by rw [h3]; exact m7, ?_, ?_⟩
  · unfold MS at *
    rw [h2 13 (by decide) (by decide), h2 14 (by decide) (by decide), h2 15 (by decide) (by decide), h1 39 (by decide) (by decide), h1 36 (by decide) (by decide), h1 38 (by decide) (by decide)]
    exact m1
  · unfold MRo at *
    rw [h1 40 (by decide) (by decide)]
    exact m2
  · unfold MUn at *
    rw [h2 23 (by decide) (by decide), h1 43 (by decide) (by decide)]
    exact m3
  · unfold MIm at *
    rw [h1 41 (by decide) (by decide), h1 42 (by decide) (by decide)]
    exact m4
  · unfold MHt at *
    rw [h2 26 (by decide) (by decide), h1 44 (by decide) (by decide), h1 45 (by decide) (by decide)]
    exact m5
  · unfold MCa at *
    rw [h2 30 (by decide) (by decide), h1 48 (by decide) (by decide)]
    exact m8
  · unfold MVZ MV at *
    rw [h1 47 (by decide) (by decide)]
    exact m9
theorem agr_clear (J : Jn w) : agr 103 138 [.ref 0] [.ref 34] w := by
  obtain ⟨p, c, rs, sp, us, im, ht, bt, n, tr, hp, ok, X, M⟩ := J
  have e1 := s_len (d := 38) X.2.2.2.1
  have f : frm 1 3 w (updI w 1 1 0) := frm.upI w (by decide) (by decide)
  have ok2 : okZ c rs us im ht bt 0 := ⟨ok.1, ok.2.1, ok.2.2.1, ok.2.2.2.1, ok.2.2.2.2.1, ok.2.2.2.2.2.1, Nat.zero_le _, fun i h => absurd h (Nat.not_lt_zero _)⟩
  refine agr_s (n2 := 0) hp ok2 M (e_X8_clear.trans (p_X8_clear_0_R e1 (e_X3_empty.trans p_X3_empty_0_R))) (fun q hq => f q (by omega)) (X.txt hp f ⟨rd_e, fun i h => absurd h (Nat.not_lt_zero _)⟩) (fun w' M' => ?_)
  have t := p_X9_clear_0_R (ex := sem 39) (w := w')
  rw [M'.2.2.2.2.2.1.1] at t
  refine ⟨_, e_X9_clear.trans t, fun q hq => ⟨?_, rfl⟩, M'.txt ⟨fun q q1 q2 => ?_, fun j j0 j1 => ?_, rfl⟩ ⟨rd_e, fun i h => absurd h (Nat.not_lt_zero _)⟩⟩
  · funext z; rw [rd_n (by omega), rd_n (by omega)]
  · funext z; rw [rd_n q1, rd_n q1]
  · rw [rd_k j1, rd_k j0]
/-- what an image changes at the reference -/
def ich (w w2 : Wd) : Prop := (∀ q, q ≠ 34 → q ≠ 41 → q ≠ 42 → w2.1 q = w.1 q) ∧ (∀ j, j ≠ 0 → w2.1 34 j = w.1 34 j) ∧ w2.2 = w.2
theorem MR.img {im2 : Nat → Option ((Nat → List Nat) × Nat)} (M : MR c rs sp us im ht bt n tr w) (h : ich w w2) (I : MIm im2 w2) : MR c rs sp us im2 ht bt n tr w2 := by
  obtain ⟨h1, h2, h3⟩ := h
  obtain ⟨m1, m2, m3, m4, m5, m6, m7, m8, m9⟩ := M
  refine ⟨?_, ?_, ?_, I, ?_, ?_, by rw [h3]; exact m7, ?_, ?_⟩
  · unfold MS at *
    rw [h2 13 (by decide), h2 14 (by decide), h2 15 (by decide), h1 39 (by decide) (by decide) (by decide), h1 36 (by decide) (by decide) (by decide), h1 38 (by decide) (by decide) (by decide)]
    exact m1
  · unfold MRo at *
    rw [h1 40 (by decide) (by decide) (by decide)]
    exact m2
  · unfold MUn at *
    rw [h2 23 (by decide), h1 43 (by decide) (by decide) (by decide)]
    exact m3
  · unfold MHt at *
    rw [h2 26 (by decide), h1 44 (by decide) (by decide) (by decide), h1 45 (by decide) (by decide) (by decide)]
    exact m5
  · unfold MT at *
    rw [h2 3 (by decide), h1 35 (by decide) (by decide) (by decide)]
    exact m6
  · unfold MCa at *
    rw [h2 30 (by decide), h1 48 (by decide) (by decide) (by decide)]
    exact m8
  · unfold MVZ MV at *
    rw [h1 47 (by decide) (by decide) (by decide)]
    exact m9
theorem i5 (j k : Nat) : 5 * nI j + nI k = nI (5 * j + k) := by
  have k1 : nI j * 5 = nI (j * 5) := pk_mul j 5
  rw [Int32.mul_comm, k1, nI_add, Nat.mul_comm]
/-- the five cells of an image -/
def cel (rs : Nat → List Nat) (sp k : Nat) : Int32 := if k < 4 then nI (cm (rs k)) else nI sp
theorem cel_of (R : MRo rs sp w) {k : Nat} (h : k < 5) : w.1 40 k = cel rs sp k := by
  unfold cel
  by_cases h4 : k < 4
  · rw [if_pos h4]; exact R.1 k h4
  · rw [if_neg h4, show k = 4 by omega]; exact R.2
theorem l_mkeep {j d : Nat} (hj : j < 2) : ∀ (m k : Nat) (w : Wd), m + k = 5 → MRo rs sp w → (∀ i, i < k → w.1 41 (5 * j + i) = cel rs sp i) →
    ∃ w2, runs (T_X9_keep (sem d)) (18, [.ref 34, .int (nI j), .int (nI k)], [], w) = some (some (.int (nI sp)), updI w2 42 j 1) ∧ (∀ i, i < 5 → w2.1 41 (5 * j + i) = cel rs sp i) ∧ (∀ i, (i < 5 * j ∨ 5 * j + 5 ≤ i) → w2.1 41 i = w.1 41 i) ∧ (∀ q, q ≠ 41 → w2.1 q = w.1 q) ∧ w2.2 = w.2 := by
  intro m
  induction m with
  | zero =>
    intro k w hk R h
    have ek : k = 5 := by omega
    subst ek
    have t := p_X9_keep_18T_R (ex := sem d) (x1 := nI j) (x2 := nI 5) (w := w) (by decide) (vp_in_nI hj (by decide))
    rw [R.2, nar1, nI_clamp (by omega)] at t
    exact ⟨w, t, h, fun _ _ => rfl, fun _ _ => rfl, rfl⟩
  | succ m ih =>
    intro k w hk R h
    have t := p_X9_keep_18F_L18 (ex := sem d) (x1 := nI j) (x2 := nI k) (w := w) (nI_ge (a := k) (b := 5) (by omega) (by decide)) (vp_in_nI (by omega) (by decide)) (by rw [i5]; exact vp_in_nI (by omega) (by decide))
    rw [i5, nI_clamp (show 5 * j + k < 2 ^ 31 by omega), nI_clamp (show k < 2 ^ 31 by omega), nI_1, cel_of R (by omega)] at t
    obtain ⟨w2, a1, a2, a3, a4, a5⟩ := ih (k + 1) (updI w 41 (5 * j + k) (cel rs sp k)) (by omega) ⟨fun t ht => by rw [rd_n (by decide)]; exact R.1 t ht, by rw [rd_n (by decide)]; exact R.2⟩ (fun i hi => by
      by_cases e : i = k
      · rw [e, rd_e]
      · rw [rd_k (by omega)]; exact h i (by omega))
    exact ⟨w2, t.trans a1, a2, fun i hi => by rw [a3 i hi, rd_k (by omega)], fun q hq => by rw [a4 q hq]; funext z; rw [rd_n hq], a5⟩
theorem agr_keep {x1 : Int32} (J : Jn w) : agr 126 194 [.ref 0, .int x1] [.ref 34, .int x1] w := by
  obtain ⟨p, c, rs, sp, us, im, ht, bt, n, tr, hp, ok, X, M⟩ := J
  rcases in_cs (x := x1) (N := 2) (by decide) with ⟨j, hj, rfl⟩ | h1
  · obtain ⟨w2, a1, a2, a3⟩ := s_keepImage (d := 36) hj X.2.1
    have e1 := s_spent (d := 38) a3.1
    have ok2 : okZ c rs us (upM im j (rs, sp)) ht bt n := by
      obtain ⟨hc, ⟨o1, o2, o4⟩, k2, k3, k4, k5, k6⟩ := ok
      refine ⟨hc, ⟨o1, o2, fun z q hq => ?_⟩, k2, k3, fun z q hq => ?_, k5, k6⟩
      · unfold upM at hq
        split at hq
        · rw [← Option.some.inj hq]; exact o1
        · exact o4 z q hq
      · unfold upM at hq
        split at hq
        · rw [← Option.some.inj hq]; exact k2
        · exact k4 z q hq
    refine agr_s hp ok2 M (e_X8_keep.trans (p_X8_keep_0FT_R (nI_pos (by omega)) (nI_lt (b := 2) hj (by decide)) a1 e1)) (fun q hq => a2 q (by omega)) (X.shf hp a2 a3) (fun w' M' => ?_)
    have M1 := M'.thr
    obtain ⟨w3, b1, b2, b3, b4, b5⟩ := l_mkeep (d := 39) (rs := rs) (sp := sp) hj 5 0 (updI w' 34 0 0) (by omega) M1.2.1 (fun i h => absurd h (Nat.not_lt_zero _))
    refine ⟨_, e_X9_keep.trans ((p_X9_keep_0T_L18 (m_inL1 (d := 38) (N := 2) (by decide) (by decide) hj) (by decide)).trans b1), fun q hq => ⟨?_, ?_⟩, M1.img ⟨fun q q1 q2 q3 => ?_, fun z z0 => ?_, b5⟩ (fun z hz => ?_)⟩
    · funext i; rw [rd_n (by omega), b4 q (by omega), rd_n (by omega)]
    · show w3.2 q = w'.2 q
      rw [b5]; rfl
    · funext i; rw [rd_n q3, b4 q q2]
    · rw [rd_n (by decide), b4 34 (by decide)]
    · by_cases e : z = j
      · subst e
        rw [upM_at]
        refine ⟨fun h => absurd h (by simp), fun q hq => ?_⟩
        rw [← Option.some.inj hq]
        refine ⟨rd_e, fun t ht => ?_, ?_⟩
        · rw [rd_n (by decide), b2 t (by omega)]
          exact if_pos ht
        · rw [rd_n (by decide), b2 4 (by omega)]
          exact if_neg (by decide)
      · rw [upM_ne _ _ e, rd_k e, rd_n (show 41 ≠ 42 by decide), b4 42 (by decide)]
        have o := M1.2.2.2.1 z hz
        refine ⟨o.1, fun q hq => ?_⟩
        obtain ⟨y1, y2, y3⟩ := o.2 q hq
        refine ⟨y1, fun t ht => ?_, ?_⟩
        · rw [rd_n (by decide), b3 _ (by omega)]; exact y2 t ht
        · rw [b3 _ (by omega)]; exact y3
  · have bx : sem 40 126 [.ref 0, .int x1] w = some (some (.int (-1)), w) := by
      rcases out_cs h1 with h | ⟨h, h2⟩
      · exact e_X8_keep.trans (p_X8_keep_0T_R h)
      · exact e_X8_keep.trans (p_X8_keep_0FF_R h (i_le_nlt h2))
    exact agr_q hp ok X M bx (xch.refl w)
      (fun w' M' => ⟨_, e_X9_keep.trans (p_X9_keep_0F_R (m_inL0 (d := 38) (N := 2) (by decide) (by decide) h1) rfl), mch.thr w', M'.2.2.2.2.2.2.2.1.thr⟩)
theorem l_mback {j d : Nat} {q : (Nat → List Nat) × Nat} (hj : j < 2) : ∀ (m k : Nat) (w : Wd), m + k = 5 → (∀ i, i < 5 → w.1 41 (5 * j + i) = cel q.1 q.2 i) → (∀ i, i < k → w.1 40 i = cel q.1 q.2 i) →
    ∃ w2, runs (T_X9_back (sem d)) (30, [.ref 34, .int (nI j), .int (nI k)], [], w) = some (some (.int (nI q.2)), updI w2 34 23 0) ∧ (∀ i, i < 5 → w2.1 40 i = cel q.1 q.2 i) ∧ (∀ q, q ≠ 40 → w2.1 q = w.1 q) ∧ w2.2 = w.2 := by
  intro m
  induction m with
  | zero =>
    intro k w hk R h
    have ek : k = 5 := by omega
    subst ek
    have t := p_X9_back_30T_R (ex := sem d) (x1 := nI j) (x2 := nI 5) (w := w) (by decide)
    have e : cel q.1 q.2 4 = nI q.2 := if_neg (by decide)
    rw [h 4 (by decide), e] at t
    exact ⟨w, t, h, fun _ _ => rfl, rfl⟩
  | succ m ih =>
    intro k w hk R h
    have t := p_X9_back_30F_L30 (ex := sem d) (x1 := nI j) (x2 := nI k) (w := w) (nI_ge (a := k) (b := 5) (by omega) (by decide)) (by rw [i5]; exact vp_in_nI (by omega) (by decide)) (vp_in_nI (by omega) (by decide))
    rw [i5, nI_clamp (show 5 * j + k < 2 ^ 31 by omega), nI_clamp (show k < 2 ^ 31 by omega), nI_1, R k (by omega)] at t
    obtain ⟨w2, a1, a2, a3, a4⟩ := ih (k + 1) (updI w 40 k (cel q.1 q.2 k)) (by omega) (fun i hi => by rw [rd_n (by decide)]; exact R i hi) (fun i hi => by
      by_cases e : i = k
      · rw [e, rd_e]
      · rw [rd_k e]; exact h i (by omega))
    exact ⟨w2, t.trans a1, a2, fun q hq => by rw [a3 q hq]; funext z; rw [rd_n hq], a4⟩
theorem agr_back {x1 : Int32} (J : Jn w) : agr 127 195 [.ref 0, .int x1] [.ref 34, .int x1] w := by
  obtain ⟨p, c, rs, sp, us, im, ht, bt, n, tr, hp, ok, X, M⟩ := J
  rcases in_cs (x := x1) (N := 2) (by decide) with ⟨j, hj, rfl⟩ | h1
  · have b1 := fun w' => m_inL1 (w := updI w' 34 0 0) (d := 38) (N := 2) (hi := 1) (by decide) (by decide) hj
    have hv : vp_in (nI j) 2 := vp_in_nI hj (by decide)
    have hcl : (nI j).toNatClampNeg = j := nI_clamp (by omega)
    cases hq : im j with
    | none =>
      refine agr_q hp ok X M (v := -2) (e_X8_back.trans (p_X8_back_0FTT_R (nI_pos (by omega)) (nI_lt (b := 2) hj (by decide)) (s_becomeImage0 (d := 38) hj hq X.2.1) rfl)) (xch.refl w) (fun w' M' => ?_)
      exact ⟨_, e_X9_back.trans (p_X9_back_0TF_R (b1 w') (by decide) hv (by rw [hcl]; exact (M'.thr.2.2.2.1 j hj).1 hq)), mch.thr w', M'.2.2.2.2.2.2.2.1.thr⟩
    | some q =>
      obtain ⟨w2, a1, a2, a3⟩ := s_becomeImage (d := 36) hj hq X.2.1
      have e1 := s_spent (d := 38) a3.1
      have ok2 : okZ c q.1 [] im ht bt n := by
        obtain ⟨hc, ⟨o1, o2, o4⟩, k2, k3, k4, k5, k6⟩ := ok
        exact ⟨hc, ⟨o4 j q hq, ⟨Nat.zero_le _, fun u hu => absurd hu List.not_mem_nil⟩, o4⟩, k4 j q hq, fun u hu => absurd hu List.not_mem_nil, k4, k5, k6⟩
      refine agr_s hp ok2 M (e_X8_back.trans (p_X8_back_0FTF_R (nI_pos (by omega)) (nI_lt (b := 2) hj (by decide)) a1 (by decide) e1)) (fun q hq => a2 q (by omega)) (X.shf hp (a2.wide (by decide) (by decide)) a3) (fun w' M' => ?_)
      have M1 := M'.thr
      obtain ⟨y1, y2, y3⟩ := (M1.2.2.2.1 j hj).2 q hq
      obtain ⟨w3, c1, c2, c3, c4⟩ := l_mback (d := 39) (q := q) hj 5 0 (updI w' 34 0 0) (by omega) (fun i hi => by
        unfold cel
        by_cases h4 : i < 4
        · rw [if_pos h4]; exact y2 i h4
        · rw [if_neg h4, show i = 4 by omega]; exact y3) (fun i h => absurd h (Nat.not_lt_zero _))
      refine ⟨_, e_X9_back.trans ((p_X9_back_0TT_L30 (b1 w') (by decide) hv (by rw [hcl, y1]; decide)).trans c1), fun z hz => ⟨?_, ?_⟩, M1.bch ⟨fun z z1 z2 z3 => ?_, fun i i0 i1 => ?_, c4⟩ ⟨fun t ht => ?_, ?_⟩ ⟨rd_e, fun i hi => absurd hi (Nat.not_lt_zero _)⟩⟩
      · funext i; rw [rd_n (by omega), c3 z (by omega), rd_n (by omega)]
      · show w3.2 z = w'.2 z
        rw [c4]; rfl
      · funext i; rw [rd_n z1, c3 z z2]
      · rw [rd_k i1, c3 34 (by decide)]
      · rw [rd_n (by decide), c2 t (by omega)]
        exact if_pos ht
      · rw [rd_n (by decide), c2 4 (by omega)]
        exact if_neg (by decide)
  · have bx : sem 40 127 [.ref 0, .int x1] w = some (some (.int (-1)), w) := by
      rcases out_cs h1 with h | ⟨h, h2⟩
      · exact e_X8_back.trans (p_X8_back_0T_R h)
      · exact e_X8_back.trans (p_X8_back_0FF_R h (i_le_nlt h2))
    exact agr_q hp ok X M bx (xch.refl w)
      (fun w' M' => ⟨_, e_X9_back.trans (p_X9_back_0F_R (m_inL0 (d := 38) (N := 2) (by decide) (by decide) h1) rfl), mch.thr w', M'.2.2.2.2.2.2.2.1.thr⟩)
end IMAGES

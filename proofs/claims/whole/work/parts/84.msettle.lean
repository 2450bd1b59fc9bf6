/-! the reference: what a text told becomes the school -/
section MSET
variable {d : Nat}
theorem l_set1 {g : Nat → Int32} : ∀ (m k : Nat) (w : Wd), m + k = 20 → (∀ j, j < k → w.1 36 j = g (20 + j)) → (∀ j, 20 ≤ j → w.1 36 j = g j) →
    ∃ w2, runs (T_X9_settles (sem d)) (26, [.ref 34, .int (nI k)], [], w) = runs (T_X9_settles (sem d)) (55, [.ref 34, .int 0], [], w2) ∧ (∀ j, j < 20 → w2.1 36 j = g (20 + j)) ∧ (∀ q, q ≠ 36 → w2.1 q = w.1 q) ∧ w2.2 = w.2 := by
  intro m
  induction m with
  | zero =>
    intro k w hk h1 h2
    have ek : k = 20 := by omega
    subst ek
    exact ⟨w, p_X9_settles_26T_L55 (by decide), h1, fun _ _ => rfl, rfl⟩
  | succ m ih =>
    intro k w hk h1 h2
    have e1 : 20 + nI k = nI (20 + k) := nI_add 20 k
    have t := p_X9_settles_26F_L26 (ex := sem d) (x1 := nI k) (w := w) (nI_ge (a := k) (b := 20) (by omega) (by decide)) (by rw [e1]; exact vp_in_nI (by omega) (by decide)) (vp_in_nI (by omega) (by decide))
    rw [e1, nI_clamp (by omega), nI_clamp (by omega), nI_1] at t
    obtain ⟨w2, a1, a2, a3, a4⟩ := ih (k + 1) (updI w 36 k (w.1 36 (20 + k))) (by omega) (fun j hj => by
      by_cases e : j = k
      · rw [e, rd_e]; exact h2 (20 + k) (by omega)
      · rw [rd_k e]; exact h1 j (by omega)) (fun j hj => by rw [rd_k (by omega)]; exact h2 j hj)
    exact ⟨w2, t.trans a1, a2, fun q hq => by rw [a3 q hq]; funext z; rw [rd_n hq], a4⟩
theorem l_set2 {g : Nat → Int32} : ∀ (m k : Nat) (w : Wd), m + k = 3 → (∀ j, j < k → w.1 38 j = g (3 + j)) → (∀ j, 3 ≤ j → w.1 38 j = g j) →
    ∃ w2, runs (T_X9_settles (sem d)) (55, [.ref 34, .int (nI k)], [], w) = runs (T_X9_settles (sem d)) (82, [.ref 34, .int 0], [], w2) ∧ (∀ j, j < 3 → w2.1 38 j = g (3 + j)) ∧ (∀ q, q ≠ 38 → w2.1 q = w.1 q) ∧ w2.2 = w.2 := by
  intro m
  induction m with
  | zero =>
    intro k w hk h1 h2
    have ek : k = 3 := by omega
    subst ek
    exact ⟨w, p_X9_settles_55T_L82 (by decide), h1, fun _ _ => rfl, rfl⟩
  | succ m ih =>
    intro k w hk h1 h2
    have e1 : 3 + nI k = nI (3 + k) := nI_add 3 k
    have t := p_X9_settles_55F_L55 (ex := sem d) (x1 := nI k) (w := w) (nI_ge (a := k) (b := 3) (by omega) (by decide)) (by rw [e1]; exact vp_in_nI (by omega) (by decide)) (vp_in_nI (by omega) (by decide))
    rw [e1, nI_clamp (by omega), nI_clamp (by omega), nI_1] at t
    obtain ⟨w2, a1, a2, a3, a4⟩ := ih (k + 1) (updI w 38 k (w.1 38 (3 + k))) (by omega) (fun j hj => by
      by_cases e : j = k
      · rw [e, rd_e]; exact h2 (3 + k) (by omega)
      · rw [rd_k e]; exact h1 j (by omega)) (fun j hj => by rw [rd_k (by omega)]; exact h2 j hj)
    exact ⟨w2, t.trans a1, a2, fun q hq => by rw [a3 q hq]; funext z; rw [rd_n hq], a4⟩
theorem l_set3 {T : Nat} {fr : Nat → List Nat} (hT : T ≤ 4) (hz : ∀ t, T ≤ t → fr t = []) : ∀ (m k : Nat) (w : Wd), m + k = 4 → w.1 34 14 = nI T → (∀ t, t < T → w.1 37 (4 + t) = nI (cm (fr t))) → (∀ j, j < k → w.1 40 j = nI (cm (fr j))) →
    ∃ w2, runs (T_X9_settles (sem d)) (82, [.ref 34, .int (nI k)], [], w) = runs (T_X9_settles (sem d)) (121, [.ref 34, .int 3], [], w2) ∧ (∀ j, j < 4 → w2.1 40 j = nI (cm (fr j))) ∧ (∀ q, q ≠ 40 → w2.1 q = w.1 q) ∧ w2.2 = w.2 := by
  intro m
  induction m with
  | zero =>
    intro k w hk h1 h2 h3
    have ek : k = 4 := by omega
    subst ek
    exact ⟨w, p_X9_settles_82T_L121 (by decide), h3, fun _ _ => rfl, rfl⟩
  | succ m ih =>
    intro k w hk h1 h2 h3
    have e1 : 4 + nI k = nI (4 + k) := nI_add 4 k
    have g4 : ¬ (4 : Int32) ≤ nI k := nI_ge (a := k) (b := 4) (by omega) (by decide)
    have nx := fun (x : Int32) (hx : x = nI (cm (fr k))) => ih (k + 1) (updI w 40 k x) (by omega) (by rw [rd_n (by decide)]; exact h1) (fun t ht => by rw [rd_n (by decide)]; exact h2 t ht) (fun j hj => by
      by_cases e : j = k
      · rw [e, rd_e]; exact hx
      · rw [rd_k e]; exact h3 j (by omega))
    by_cases hk2 : k < T
    · have t := p_X9_settles_82FF_L82 (ex := sem d) (x1 := nI k) (w := w) g4 (by rw [h1]; exact nI_ge hk2 (by omega)) (by rw [e1]; exact vp_in_nI (by omega) (by decide)) (vp_in_nI (by omega) (by decide))
      rw [e1, nI_clamp (by omega), nI_clamp (by omega), nI_1, h2 k hk2] at t
      obtain ⟨w2, a1, a2, a3, a4⟩ := nx _ rfl
      exact ⟨w2, t.trans a1, a2, fun q hq => by rw [a3 q hq]; funext z; rw [rd_n hq], a4⟩
    · have t := p_X9_settles_82FT_L82 (ex := sem d) (x1 := nI k) (w := w) g4 (by rw [h1]; exact nI_le (by omega) (by omega)) (vp_in_nI (by omega) (by decide))
      rw [nI_clamp (by omega), nI_1] at t
      obtain ⟨w2, a1, a2, a3, a4⟩ := nx 0 (by rw [hz k (by omega)]; rfl)
      exact ⟨w2, t.trans a1, a2, fun q hq => by rw [a3 q hq]; funext z; rw [rd_n hq], a4⟩
theorem l_set4 {D : Dr} (ok : okD D) : ∀ (m k : Nat) (w : Wd), m + k = 6 → 3 ≤ k → (∀ j, 7 ≤ j → j ≤ 9 → w.1 39 (j + 2) = if D.1 6 j = 0 then -9 else nI (D.1 0 (j - 4))) → (∀ j, 3 ≤ j → j < k → w.1 39 j = nI (D.1 0 j)) →
    ∃ w2, runs (T_X9_settles (sem d)) (121, [.ref 34, .int (nI k)], [], w) = runs (T_X9_settles (sem d)) (212, [.ref 34, .int 0], [], updI (updI (updI (updI (updI (updI w2 40 4 0) 34 3 0) 34 23 0) 34 26 0) 42 0 0) 42 1 0) ∧ (∀ j, 3 ≤ j → j < 6 → w2.1 39 j = nI (D.1 0 j)) ∧ (∀ q, q ≠ 39 → w2.1 q = w.1 q) ∧ w2.2 = w.2 := by
  have hb : ∀ k, 3 ≤ k → k < 6 → D.1 0 k ≤ 9 := fun k h1 h2 => by
    obtain ⟨_, _, _, g4, g5, g6, _⟩ := ok.1
    rcases (by omega : k = 3 ∨ k = 4 ∨ k = 5) with rfl | rfl | rfl
    · exact g4
    · exact g5
    · omega
  intro m
  induction m with
  | zero =>
    intro k w hk h3 h1 h2
    have ek : k = 6 := by omega
    subst ek
    have t := p_X9_settles_121T_L212 (ex := sem d) (x1 := nI 6) (w := w) (by decide)
    rw [nar0] at t
    exact ⟨w, t, h2, fun _ _ => rfl, rfl⟩
  | succ m ih =>
    intro k w hk h3 h1 h2
    have e1 : 6 + nI k = nI (6 + k) := nI_add 6 k
    have g5 : ¬ (5 : Int32) < nI k := nI_nlt (a := 5) (b := k) (by omega) (by decide)
    have v1 : vp_in (6 + nI k) 12 := by rw [e1]; exact vp_in_nI (by omega) (by decide)
    have v2 : vp_in (nI k) 12 := vp_in_nI (by omega) (by decide)
    have c1 : (6 + nI k).toNatClampNeg = k + 6 := by rw [e1, nI_clamp (by omega), Nat.add_comm]
    have q1 := h1 (k + 4) (by omega) (by omega)
    have q2 := (ok.2.2.2 (k + 4) (by omega) (by omega)).2
    rw [show k + 4 + 2 = k + 6 by omega, show k + 4 - 4 = k by omega] at q1
    rw [show k + 4 - 4 = k by omega] at q2
    have nx := fun (x : Int32) (hx : x = nI (D.1 0 k)) => ih (k + 1) (updI w 39 k x) (by omega) (by omega) (fun j j1 j2 => by rw [rd_k (by omega)]; exact h1 j j1 j2) (fun j j1 j2 => by
      by_cases e : j = k
      · rw [e, rd_e]; exact hx
      · rw [rd_k e]; exact h2 j j1 (by omega))
    by_cases h0 : D.1 6 (k + 4) = 0
    · rw [if_pos h0] at q1
      have q3 := q2 h0
      by_cases h5 : k = 5
      · have t := p_X9_settles_121FTF_L121 (ex := sem d) (x1 := nI k) (w := w) g5 v1 (by rw [c1]; exact q1) (by rw [h5]; rfl) v2
        rw [nI_clamp (by omega), nI_1] at t
        rw [if_pos (by omega)] at q3
        obtain ⟨w2, a1, a2, a3, a4⟩ := nx 4 (by rw [q3]; rfl)
        exact ⟨w2, t.trans a1, a2, fun q hq => by rw [a3 q hq]; funext z; rw [rd_n hq], a4⟩
      · have t := p_X9_settles_121FTT_L121 (ex := sem d) (x1 := nI k) (w := w) g5 v1 (by rw [c1]; exact q1) (fun h => h5 ((nI_eq (b := 5) (by omega) (by decide)).mp h)) v2
        rw [nI_clamp (by omega), nI_1] at t
        rw [if_neg (by omega)] at q3
        obtain ⟨w2, a1, a2, a3, a4⟩ := nx 1 (by rw [q3]; rfl)
        exact ⟨w2, t.trans a1, a2, fun q hq => by rw [a3 q hq]; funext z; rw [rd_n hq], a4⟩
    · rw [if_neg h0] at q1
      have hbk := hb k h3 (by omega)
      have t := p_X9_settles_121FF_L121 (ex := sem d) (x1 := nI k) (w := w) g5 v1 (by
        rw [c1, q1]
        intro h
        have := nI_pos (n := D.1 0 k) (by omega)
        rw [h] at this
        exact this (by decide)) v1 v2
      rw [nI_clamp (show k < 2 ^ 31 by omega), nI_1, c1, q1] at t
      obtain ⟨w2, a1, a2, a3, a4⟩ := nx _ rfl
      exact ⟨w2, t.trans a1, a2, fun q hq => by rw [a3 q hq]; funext z; rw [rd_n hq], a4⟩
theorem MS.at47 {c : Nat → Nat → Nat} {w : Wd} {y : Nat} {x : Int32} (M : MS c w) : MS c (updI w 47 y x) := by
  unfold MS at *
  rw [rd_n (by decide), rd_n (by decide), rd_n (by decide), rd_n (by decide), rd_n (by decide), rd_n (by decide)]
  refine ⟨M.1, M.2.1, M.2.2.1, M.2.2.2.1, M.2.2.2.2.1, M.2.2.2.2.2.1, fun s hs => ?_, fun q hq => ?_⟩
  · rw [rd_n (by decide), rd_n (by decide), rd_n (by decide), rd_n (by decide)]
    exact M.2.2.2.2.2.2.1 s hs
  · rw [rd_n (by decide)]
    exact M.2.2.2.2.2.2.2 q hq
theorem l_set5 {c : Nat → Nat → Nat} (hc : okc c) : ∀ (m k : Nat) (w : Wd), m + k = 7776 → MS c w → (∀ y, y < k → w.1 47 y = b2i (vl c 5 y)) →
    ∃ w2, runs (T_X9_settles (sem (d + 2))) (212, [.ref 34, .int (nI k)], [], w) = some (none, updI w2 34 30 (-9)) ∧ (∀ y, y < 7776 → w2.1 47 y = b2i (vl c 5 y)) ∧ (∀ q, q ≠ 47 → w2.1 q = w.1 q) ∧ w2.2 = w.2 := by
  intro m
  induction m with
  | zero =>
    intro k w hk M h
    have ek : k = 7776 := by omega
    subst ek
    exact ⟨w, p_X9_settles_212T_R (by decide), h, fun _ _ => rfl, rfl⟩
  | succ m ih =>
    intro k w hk M h
    have t := p_X9_settles_212F_L212 (nI_ge (a := k) (b := 7776) (by omega) (by decide)) (m_isRow (d := d) hc M (y := k) (by omega)) (vp_in_nI (by omega) (by decide))
    have e0 : vp_nar .boolean (b2i (vl c 5 k)) = b2i (vl c 5 k) := by
      cases vl c 5 k with
      | true => exact nar1
      | false => exact nar0
    rw [nI_clamp (by omega), nI_1, e0] at t
    obtain ⟨w2, a1, a2, a3, a4⟩ := ih (k + 1) _ (by omega) M.at47 (fun y hy => by
      by_cases e : y = k
      · rw [e, rd_e]
      · rw [rd_k e]; exact h y (by omega))
    exact ⟨w2, t.trans a1, a2, fun q hq => by rw [a3 q hq]; funext z; rw [rd_n hq], a4⟩
/-- what is remembered of rows is right, and yes or no -/
def MVZ (c : Nat → Nat → Nat) (w : Wd) : Prop := MV c w ∧ ∀ y, y < 7776 → w.1 47 y = 0 ∨ w.1 47 y = 1
/-- what the school has become -/
def setO (D : Dr) (w w2 : Wd) : Prop :=
  MS D.1 w2 ∧ (∀ t, t < 4 → w2.1 40 t = nI (cm (D.2 t))) ∧ w2.1 40 4 = 0 ∧ w2.1 34 3 = 0 ∧ w2.1 34 23 = 0 ∧ w2.1 34 26 = 0 ∧ w2.1 42 0 = 0 ∧ w2.1 42 1 = 0 ∧ MVZ D.1 w2 ∧ w2.1 34 30 = -9 ∧ (∀ q, q < 34 → w2.1 q = w.1 q) ∧ w2.2 = w.2
theorem m_settles {D : Dr} {w : Wd} (ok : okD D) (M : MD D w) : ∃ w2, sem (d + 3) 150 [.ref 34] w = some (none, w2) ∧ setO D w w2 := by
  obtain ⟨m1, m2, m3, m4, m5, m6, m7⟩ := M
  have h4 := ok.1.2.1
  have h3 := ok.1.2.2.1
  have h5 := ok.1.1
  have t0 := p_X9_settles_0_L26 (ex := sem (d + 2)) (w := w)
  rw [m1, m2, m3] at t0
  have z0 : ∀ q, q ≠ 34 → (updI (updI (updI w 34 13 (nI (D.1 0 0))) 34 14 (nI (D.1 0 1))) 34 15 (nI (D.1 0 2))).1 q = w.1 q := fun q h => by
    funext j; rw [rd_n h, rd_n h, rd_n h]
  obtain ⟨w1, a1, a2, a3, a4⟩ := l_set1 (d := d + 2) (g := w.1 36) 20 0 (updI (updI (updI w 34 13 (nI (D.1 0 0))) 34 14 (nI (D.1 0 1))) 34 15 (nI (D.1 0 2))) (by omega) (fun j h => absurd h (Nat.not_lt_zero _)) (fun j _ => by rw [z0 36 (by decide)])
  obtain ⟨w2, b1, b2, b3, b4⟩ := l_set2 (d := d + 2) (g := w.1 38) 3 0 w1 (by omega) (fun j h => absurd h (Nat.not_lt_zero _)) (fun j _ => by rw [a3 38 (by decide), z0 38 (by decide)])
  have e34 : w2.1 34 = (updI (updI (updI w 34 13 (nI (D.1 0 0))) 34 14 (nI (D.1 0 1))) 34 15 (nI (D.1 0 2))).1 34 := by rw [b3 34 (by decide), a3 34 (by decide)]
  obtain ⟨w3, c1, c2, c3, c4⟩ := l_set3 (d := d + 2) (T := D.1 0 1) (fr := D.2) h4 ok.2.2.1 4 0 w2 (by omega) (by rw [e34, rd_k (by decide), rd_e]) (fun t ht => by rw [b3 37 (by decide), a3 37 (by decide), z0 37 (by decide)]; exact m5 t ht) (fun j h => absurd h (Nat.not_lt_zero _))
  obtain ⟨w4, d1, d2, d3, d4⟩ := l_set4 (d := d + 2) ok 3 3 w3 (by omega) (by omega) (fun j j1 j2 => by rw [c3 39 (by decide), b3 39 (by decide), a3 39 (by decide), z0 39 (by decide)]; exact m7 j j1 j2) (fun j j1 j2 => by omega)
  have MS4 : MS D.1 (updI (updI (updI (updI (updI (updI w4 40 4 0) 34 3 0) 34 23 0) 34 26 0) 42 0 0) 42 1 0) := by
    have y : ∀ q, q ≠ 34 → q ≠ 40 → q ≠ 42 → (updI (updI (updI (updI (updI (updI w4 40 4 0) 34 3 0) 34 23 0) 34 26 0) 42 0 0) 42 1 0).1 q = w4.1 q := fun q h1 h2 h3 => by
      funext j; rw [rd_n h3, rd_n h3, rd_n h1, rd_n h1, rd_n h1, rd_n h2]
    have y34 : ∀ j, j ≠ 3 → j ≠ 23 → j ≠ 26 → (updI (updI (updI (updI (updI (updI w4 40 4 0) 34 3 0) 34 23 0) 34 26 0) 42 0 0) 42 1 0).1 34 j = w2.1 34 j := fun j h1 h2 h3 => by
      rw [rd_n (by decide), rd_n (by decide), rd_k h3, rd_k h2, rd_k h1, rd_n (by decide), d3 34 (by decide), c3 34 (by decide)]
    unfold MS
    rw [y34 13 (by decide) (by decide) (by decide), y34 14 (by decide) (by decide) (by decide), y34 15 (by decide) (by decide) (by decide), y 39 (by decide) (by decide) (by decide), y 36 (by decide) (by decide) (by decide), y 38 (by decide) (by decide) (by decide), e34, d3 36 (by decide), d3 38 (by decide), c3 36 (by decide), c3 38 (by decide), b3 36 (by decide)]
    refine ⟨by rw [rd_k (by decide), rd_k (by decide), rd_e], by rw [rd_k (by decide), rd_e], rd_e, d2 3 (by decide) (by decide), d2 4 (by decide) (by decide), d2 5 (by decide) (by decide), fun s hs => ?_, fun q hq => ?_⟩
    · rw [a2 _ (by omega), a2 _ (by omega), a2 _ (by omega), a2 _ (by omega)]
      have := m4 s hs
      rw [show 20 + 4 * s + 1 = 20 + (4 * s + 1) by omega, show 20 + 4 * s + 2 = 20 + (4 * s + 2) by omega, show 20 + 4 * s + 3 = 20 + (4 * s + 3) by omega] at this
      exact this
    · rw [b2 _ (by omega)]
      exact m6 q hq
  obtain ⟨w5, f1, f2, f3, f4⟩ := l_set5 (d := d) ok.1 7776 0 _ (by omega) MS4 (fun y h => absurd h (Nat.not_lt_zero _))
  have g := fun q (h1 : q ≠ 34) => (show (updI w5 34 30 (-9)).1 q = w5.1 q by funext j; rw [rd_n h1])
  refine ⟨_, e_X9_settles.trans (t0.trans (a1.trans (b1.trans (c1.trans (d1.trans f1))))), ?_, fun t ht => ?_, ?_, ?_, ?_, ?_, ?_, ?_, ⟨fun y hy => ?_, fun y hy => ?_⟩, rd_e, fun q hq => ?_, ?_⟩
  · unfold MS at MS4 ⊢
    rw [rd_k (by decide), rd_k (by decide), rd_k (by decide), g 39 (by decide), g 36 (by decide), g 38 (by decide), f3 34 (by decide), f3 39 (by decide), f3 36 (by decide), f3 38 (by decide)]
    exact MS4
  · rw [g 40 (by decide), f3 40 (by decide), rd_n (by decide), rd_n (by decide), rd_n (by decide), rd_n (by decide), rd_n (by decide), rd_k (by omega), d3 40 (by decide)]
    exact c2 t ht
  · rw [g 40 (by decide), f3 40 (by decide), rd_n (by decide), rd_n (by decide), rd_n (by decide), rd_n (by decide), rd_n (by decide), rd_e]
  · rw [rd_k (by decide), f3 34 (by decide), rd_n (by decide), rd_n (by decide), rd_k (by decide), rd_k (by decide), rd_e]
  · rw [rd_k (by decide), f3 34 (by decide), rd_n (by decide), rd_n (by decide), rd_k (by decide), rd_e]
  · rw [rd_k (by decide), f3 34 (by decide), rd_n (by decide), rd_n (by decide), rd_e]
  · rw [g 42 (by decide), f3 42 (by decide), rd_k (by decide), rd_e]
  · rw [g 42 (by decide), f3 42 (by decide), rd_e]
  · rw [g 47 (by decide), f2 y hy]
    cases hv : vl D.1 5 y with
    | true => exact Or.inr ⟨by decide, (vl5 ok.1 hy).mp hv⟩
    | false => exact Or.inl ⟨rfl, fun r hr he => by rw [(vl5 ok.1 hy).mpr ⟨r, hr, he⟩] at hv; exact absurd hv (by decide)⟩
  · rw [g 47 (by decide), f2 y hy]
    exact b2i_01 _
  · rw [g q (by omega), f3 q (by omega)]
    have : ∀ w : Wd, (updI (updI (updI (updI (updI (updI w 40 4 0) 34 3 0) 34 23 0) 34 26 0) 42 0 0) 42 1 0).1 q = w.1 q := fun w => by
      funext j; rw [rd_n (by omega), rd_n (by omega), rd_n (by omega), rd_n (by omega), rd_n (by omega), rd_n (by omega)]
    rw [this, d3 q (by omega), c3 q (by omega), b3 q (by omega), a3 q (by omega), z0 q (by omega)]
  · show w5.2 = w.2
    rw [f4]
    show w4.2 = w.2
    rw [d4, c4, b4, a4]
    rfl
end MSET

/-! rate agrees -/
section RATE
variable {p : Nat} {c : Nat → Nat → Nat} {rs : Nat → List Nat} {sp : Nat} {us : List (Nat × List Nat × Nat)} {im : Nat → Option ((Nat → List Nat) × Nat)} {ht : List (Nat × Nat)} {bt : Nat → Nat} {n : Nat} {tr : Int64} {w w2 : Wd}
theorem l_rate1 {s d : Nat} {x1 x3 x4 x5 x7 : Int32} (M : MS c w) (hc : okc c) (hs : s < 5) : ∀ (m k : Nat) (v9 : Value), m + k = c 0 2 → runs (T_X9_rate (sem (d + 1))) (71, [.ref 34, .int x1, .int (nI s), .int x3, .int x4, .int x5, .int (nI (sayN c s k)), .int x7, .int (nI k), v9], [], w) = runs (T_X9_rate (sem (d + 1))) (109, [.ref 34, .int x1, .int (nI s), .int x3, .int x4, .int x5, .int (nI (sayN c s (c 0 2))), .int x7, .int 0, .null], [], w) := by
  have h3 := hc.2.2.1
  intro m
  induction m with
  | zero =>
    intro k v9 hk
    have ek : k = c 0 2 := by omega
    rw [ek]
    exact p_X9_rate_71T_L109 (by rw [M.2.2.1]; exact nI_le (Nat.le_refl _) (by omega))
  | succ m ih =>
    intro k v9 hk
    have g1 : ¬ (w.1 34 15) ≤ nI k := by rw [M.2.2.1]; exact nI_ge (by omega) (by omega)
    have e1 := m_may (d := d) M hc (q := k) (s := s) (by omega) hs
    have e2 : sayN c s (k + 1) = sayN c s k + c 5 k / 2 ^ s % 2 := rfl
    have nx := ih (k + 1) .null (by omega)
    rw [e2] at nx
    rcases b2i_cases ((c 5 k).testBit s) with ⟨hb, hm⟩ | ⟨hb, hm⟩
    · rw [hm] at e1
      rw [Nat.testBit_eq_decide_div_mod_eq, decide_eq_true_eq] at hb
      rw [hb] at nx
      refine (p_X9_rate_71FF_L71 g1 e1 (by decide)).trans ?_
      rw [nI_1, nI_1]
      exact nx
    · rw [hm] at e1
      rw [Nat.testBit_eq_decide_div_mod_eq, decide_eq_false_iff_not] at hb
      rw [show c 5 k / 2 ^ s % 2 = 0 by omega] at nx
      refine (p_X9_rate_71FT_L71 g1 e1 rfl).trans ?_
      rw [Int32.add_zero, nI_1]
      exact nx
theorem l_rate3 {s t d : Nat} {x1 x3 x4 x5 x6 : Int32} (hs : s < 5) : ∀ (r : List Nat) (a : Nat), okr 5 r → runs (T_X9_rate (sem d)) (127, [.ref 34, .int x1, .int (nI s), .int x3, .int x4, .int x5, .int x6, .int (nI a), .int (nI t), .int (nI (cm r))], [], w) = runs (T_X9_rate (sem d)) (109, [.ref 34, .int x1, .int (nI s), .int x3, .int x4, .int x5, .int x6, .int (nI (a + r.count s)), .int (nI (t + 1)), .null], [], w) := by
  intro r
  induction r with
  | nil =>
    intro a _
    refine (p_X9_rate_127T_L109 (by decide)).trans ?_
    rw [nI_1]
    rfl
  | cons z r ih =>
    intro a hr
    have hb := cm_lt hr
    have hz := hr.hd
    have g0 : ¬ nI (cm (z :: r)) ≤ 0 := nI_nle (Nat.succ_pos _) (by omega)
    rw [cm_cons] at hb
    have e1 : nI (cm (z :: r)) - nI (cm (z :: r)) / 6 * 6 = nI (z + 1) := by rw [cm_cons]; exact i_mod6 (by omega) hz
    have e2 : nI (cm (z :: r)) / 6 = nI (cm r) := cm_tail hr
    by_cases h : z = s
    · refine (p_X9_rate_127FF_L127 g0 (by rw [e1, nI_1, h])).trans ?_
      rw [e2, nI_1, h, List.count_cons_self, show a + (r.count s + 1) = a + 1 + r.count s by omega]
      exact ih (a + 1) hr.tl
    · refine (p_X9_rate_127FT_L127 g0 (by rw [e1, nI_1]; exact fun g => h (by have := (nI_eq (by omega) (by omega)).mp g; omega))).trans ?_
      rw [e2, Int32.add_zero, List.count_cons_of_ne h]
      exact ih a hr.tl
theorem l_rate2 {s d : Nat} {x1 x3 x4 x5 x6 : Int32} (M : MS c w) (R : MRo rs sp w) (hc : okc c) (hr : ∀ t, t < 4 → okr 5 (rs t)) (hs : s < 5) : ∀ (m k : Nat) (v9 : Value), m + k = c 0 1 → ∃ v, runs (T_X9_rate (sem d)) (109, [.ref 34, .int x1, .int (nI s), .int x3, .int x4, .int x5, .int x6, .int (nI (witN s rs k)), .int (nI k), v9], [], w) = runs (T_X9_rate (sem d)) (109, [.ref 34, .int x1, .int (nI s), .int x3, .int x4, .int x5, .int x6, .int (nI (witN s rs (c 0 1))), .int (nI (c 0 1)), v], [], w) := by
  have h4 := hc.2.1
  intro m
  induction m with
  | zero =>
    intro k v9 hk
    have ek : k = c 0 1 := by omega
    rw [ek]
    exact ⟨v9, rfl⟩
  | succ m ih =>
    intro k v9 hk
    obtain ⟨v, a1⟩ := ih (k + 1) .null (by omega)
    refine ⟨v, ?_⟩
    have t := p_X9_rate_109F_L127 (ex := sem d) (x1 := x1) (x2 := nI s) (x3 := x3) (x4 := x4) (x5 := x5) (x6 := x6) (x7 := nI (witN s rs k)) (x8 := nI k) (v9 := v9) (w := w) (by rw [M.2.1]; exact nI_ge (by omega) (by omega)) (vp_in_nI (by omega) (by decide))
    rw [nI_clamp (by omega), R.1 k (by omega)] at t
    refine t.trans ((l_rate3 hs (rs k) _ (hr k (by omega))).trans ?_)
    exact a1
theorem witN_ext {s T : Nat} (h : ∀ t, T ≤ t → t < 4 → rs t = []) : ∀ m, T + m ≤ 4 → witN s rs (T + m) = witN s rs T := by
  intro m
  induction m with
  | zero => intro _; rfl
  | succ m ih =>
    intro hm
    show witN s rs (T + m) + (rs (T + m)).count s = witN s rs T
    rw [ih (by omega), h (T + m) (by omega) (by omega)]
    rfl
theorem MR.trc {tr2 : Int64} (M : MR c rs sp us im ht bt n tr w) (h1 : w2.1 = w.1) (h2 : w2.2 34 1 = tr2) : MR c rs sp us im ht bt n tr2 w2 := by
  unfold MR MS MRo MUn MIm MHt MT MCa MVZ MV at *
  rw [h1, h2]
  obtain ⟨m1, m2, m3, m4, m5, m6, m7, m8, m9⟩ := M
  exact ⟨m1, m2, m3, m4, m5, m6, rfl, m8, m9⟩
theorem agr_rate {x1 x2 : Int32} (J : Jn w) : agr 125 193 [.ref 0, .int x1, .int x2] [.ref 34, .int x1, .int x2] w := by
  obtain ⟨p, c, rs, sp, us, im, ht, bt, n, tr, hp, ok, X, M⟩ := J
  have hc := ok.1
  have h5 := hc.1
  have h4 := hc.2.1
  have X1 := X.1
  have x5 := X.2.2.2.2.2.1
  have hr5 : ∀ t, t < 4 → okr 5 (rs t) := fun t ht => (ok.2.1.1 t ht).five hc
  rcases in_cs (x := x1) (N := 6) (by decide) with ⟨k, hk, rfl⟩ | h1
  · have k1 : ¬ nI k < 0 := nI_pos (by omega)
    have k2 : ¬ (6 : Int32) ≤ nI k := nI_ge (b := 6) hk (by decide)
    have b1 := fun w' => m_inL1 (w := updI w' 34 0 0) (d := 38) (N := 6) (hi := 5) (by decide) (by decide) hk
    rcases in_cs (x := x2) (N := c 0 0) (by omega) with ⟨s, hs, rfl⟩ | h2
    · have a1 := x_isSpell1 (d := 38) hp X1 hc hs
      have a2 := s_rating (d := 33) hp X1 hc hs X.2.1.1 hr5 hk
      have fx : ∀ q, 34 ≤ q → (addT w (ratT k)).1 q = w.1 q ∧ (addT w (ratT k)).2 q = w.2 q := fun q hq => ⟨rfl, by
        unfold addT updL
        exact if_neg (by omega)⟩
      have X2 : XR p c rs sp us im ht bt n (tr + ratT k) (addT w (ratT k)) := by
        refine ⟨X.1, X.2.1, X.2.2.1, X.2.2.2.1, ?_, X.2.2.2.2.2.1, X.2.2.2.2.2.2⟩
        unfold addT
        rw [updL_at]
        unfold vp_updL
        rw [if_pos rfl, X.2.2.2.2.1]
      refine agr_s hp ok M (e_X8_rate.trans (p_X8_rate_0FFT_R hp k1 k2 x5 a1 (by decide) x5 a2)) fx X2 (fun w' M' => ?_)
      have M1 := M'.thr
      obtain ⟨q0, q1, q2, q3⟩ := M1.1.2.2.2.2.2.2.1 s hs
      have e4 : 4 * nI s = nI (4 * s) := by
        have k1 : nI s * 4 = nI (s * 4) := pk_mul s 4
        rw [Int32.mul_comm, k1, Nat.mul_comm]
      have e42 : 4 * nI s + 2 = nI (4 * s + 2) := by rw [e4]; exact nI_add _ 2
      have e43 : 4 * nI s + 3 = nI (4 * s + 3) := by rw [e4]; exact nI_add _ 3
      have t0 := p_X9_rate_0FT_L71 (ex := sem 39) (b1 w') (by decide) (m_isSpell1 (d := 37) M1.1 hc hs) (by decide) (by rw [e4]; exact vp_in_nI (by omega) (by decide)) (by rw [e42]; exact vp_in_nI (by omega) (by decide)) (by rw [e43]; exact vp_in_nI (by omega) (by decide))
      rw [e42, e43, e4, nI_clamp (show 4 * s < 2 ^ 31 by omega), nI_clamp (show 4 * s + 2 < 2 ^ 31 by omega), nI_clamp (show 4 * s + 3 < 2 ^ 31 by omega), q0, q2, q3] at t0
      have t1 := l_rate1 (d := 38) (s := s) (x1 := nI k) (x3 := nI (c 1 s)) (x4 := nI (c 1 s) + nI (c 3 s)) (x5 := nI (c 1 s) - nI (c 4 s)) (x7 := 0) M1.1 hc (by omega) (c 0 2) 0 .null (by omega)
      obtain ⟨v, t2⟩ := l_rate2 (d := 39) (s := s) (x1 := nI k) (x3 := nI (c 1 s)) (x4 := nI (c 1 s) + nI (c 3 s)) (x5 := nI (c 1 s) - nI (c 4 s)) (x6 := nI (sayN c s (c 0 2))) M1.1 M1.2.1 hc hr5 (by omega) (c 0 1) 0 .null (by omega)
      have e := witN_ext (s := s) ok.2.2.1 (4 - c 0 1) (by omega)
      rw [show c 0 1 + (4 - c 0 1) = 4 by omega] at e
      rw [← e] at t2
      have T := t0.trans (t1.trans t2)
      have g1 : (updI w' 34 0 0).1 34 14 ≤ nI (c 0 1) := by rw [M1.1.2.1]; exact nI_le (Nat.le_refl _) (by omega)
      have fin : ∀ z : Int64, z = ratT k → ∀ v0 : Int32, v0 = ratI c rs k s → runs (T_X9_rate (sem 39)) (109, [.ref 34, .int (nI k), .int (nI s), .int (nI (c 1 s)), .int (nI (c 1 s) + nI (c 3 s)), .int (nI (c 1 s) - nI (c 4 s)), .int (nI (sayN c s (c 0 2))), .int (nI (witN s rs 4)), .int (nI (c 0 1)), v], [], updI w' 34 0 0) = some (some (.int v0), updL (updI w' 34 0 0) 34 1 ((updI w' 34 0 0).2 34 1 + z)) →
          ∃ w3, sem 40 193 [.ref 34, .int (nI k), .int (nI s)] w' = some (some (.int (ratI c rs k s)), w3) ∧ (∀ q, q < 34 → w3.1 q = w'.1 q ∧ w3.2 q = w'.2 q) ∧ MR c rs sp us im ht bt n (tr + ratT k) w3 := by
        intro z hz v0 hv0 hT
        subst hz
        subst hv0
        refine ⟨_, e_X9_rate.trans (T.trans hT), fun q hq => ⟨?_, if_neg (by omega)⟩, M1.trc rfl ?_⟩
        · rw [updL_1]
          funext i; rw [rd_n (by omega)]
        · rw [updL_at]
          unfold vp_updL
          rw [if_pos rfl]
          show w'.2 34 1 + ratT k = tr + ratT k
          rw [M'.2.2.2.2.2.2.1]
      rcases (by omega : k = 0 ∨ k = 1 ∨ k = 2 ∨ k = 3 ∨ k = 4 ∨ k = 5) with rfl | rfl | rfl | rfl | rfl | rfl
      · exact fin 1 rfl _ rfl (p_X9_rate_109TFF_R g1 rfl rfl)
      · exact fin 11 rfl _ rfl (p_X9_rate_109TTFTF_R g1 (by decide) rfl (by decide) rfl)
      · exact fin 101 rfl _ rfl (p_X9_rate_109TTTFTTF_R g1 (by decide) (by decide) rfl (by decide) (by decide) rfl)
      · exact fin 1011 rfl _ rfl (p_X9_rate_109TTTTFTTTF_R g1 (by decide) (by decide) (by decide) rfl (by decide) (by decide) (by decide) rfl)
      · exact fin 10101 rfl _ rfl (p_X9_rate_109TTTTTFTTTTF_R g1 (by decide) (by decide) (by decide) (by decide) rfl (by decide) (by decide) (by decide) (by decide) rfl)
      · exact fin 100001 rfl _ rfl (p_X9_rate_109TTTTTTTTTTT_R g1 (by decide) (by decide) (by decide) (by decide) (by decide) (by decide) (by decide) (by decide) (by decide) (by decide))
    · exact agr_q hp ok X M (v := -1000000) (e_X8_rate.trans (p_X8_rate_0FFF_R hp k1 k2 x5 (x_isSpell0 (d := 38) hp X1 hc h2) rfl)) (xch.refl w)
        (fun w' M' => ⟨_, e_X9_rate.trans (p_X9_rate_0FF_R (b1 w') (by decide) (m_isSpell0 (d := 37) M'.thr.1 hc h2) rfl), mch.thr w', M'.2.2.2.2.2.2.2.1.thr⟩)
  · have bx : sem 40 125 [.ref 0, .int x1, .int x2] w = some (some (.int (-1000000)), w) := by
      rcases out_cs h1 with h | ⟨h, h2⟩
      · exact e_X8_rate.trans (p_X8_rate_0T_R hp h)
      · exact e_X8_rate.trans (p_X8_rate_0FT_R hp h h2)
    exact agr_q hp ok X M bx (xch.refl w)
      (fun w' M' => ⟨_, e_X9_rate.trans (p_X9_rate_0T_R (m_inL0 (d := 38) (N := 6) (by decide) (by decide) h1) rfl), mch.thr w', M'.2.2.2.2.2.2.2.1.thr⟩)
end RATE

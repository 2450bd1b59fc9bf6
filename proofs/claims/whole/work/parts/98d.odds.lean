/-! odds agrees -/
def rd : Nat → Int32 × Int32 → Int32 × Int32
  | 0, z => z
  | 1, z => z
  | d + 2, z => if z.1 - z.1 / nI (d + 2) * nI (d + 2) = 0 ∧ z.2 - z.2 / nI (d + 2) * nI (d + 2) = 0 then rd (d + 1) (z.1 / nI (d + 2), z.2 / nI (d + 2)) else rd (d + 1) z
def pwL (m : Int64) : Nat → Int64 → Int64
  | 0, a => a
  | n + 1, a => pwL m n (a * m)
def gcT : Nat → Int64 → Int64 → Option Int64
  | 0, _, _ => none
  | f + 1, a, b => if b = 0 then some a else gcT f b (a - a / b * b)
def odX (k p q : Nat) : Int64 := pwL (if q = 0 then (rd 10 (10 - nI p, 10)).1 else (rd 10 (10 - nI p, 10)).2).toInt64 k 1
def odOk (k p q : Nat) : Bool :=
  match gcT 60 (pwL (10 - nI p).toInt64 k 1) (pwL 10 k 1) with
  | none => false
  | some g => if g = 0 then false else decide ((if q = 0 then pwL (10 - nI p).toInt64 k 1 / g else pwL 10 k 1 / g) = odX k p q)
theorem od_all : ∀ k : Nat, k < 10 → ∀ p : Nat, p < 11 → ∀ q : Nat, q < 2 → odOk k p q = true := by decide +kernel
section ODDS
variable {w : Wd}
theorem x_odds1 {k q : Nat} {V : Int64} : ∀ (d : Nat) (z : Int32 × Int32) (v0 v2 : Value), d < 20 → q < 2 →
    sem 39 132 [.int (if q = 0 then (rd (d + 1) z).1 else (rd (d + 1) z).2), .int (nI k)] w = some (some (.long V), w) →
    runs (T_X8_odds (sem 39)) (45, [v0, .int (nI k), v2, .int (nI q), .int z.1, .int z.2, .int (nI (d + 1))], [], w) = some (some (.long V), w) := by
  intro d
  induction d with
  | zero =>
    intro z v0 v2 _ hq e
    have g1 : nI (0 + 1) ≤ 1 := by decide
    rcases (by omega : q = 0 ∨ q = 1) with rfl | rfl
    · exact p_X8_odds_45TF_R g1 rfl e
    · exact p_X8_odds_45TT_R g1 (by decide) e
  | succ d ih =>
    intro z v0 v2 hd hq e
    have g1 : ¬ nI (d + 1 + 1) ≤ 1 := nI_ge (a := 1) (b := d + 1 + 1) (by omega) (by omega)
    have g2 : ¬ nI (d + 1 + 1) = 0 := fun h => by rw [show (0 : Int32) = nI 0 from rfl, nI_eq (by omega) (by decide)] at h; omega
    have er : rd (d + 1 + 1) z = if z.1 - z.1 / nI (d + 2) * nI (d + 2) = 0 ∧ z.2 - z.2 / nI (d + 2) * nI (d + 2) = 0 then rd (d + 1) (z.1 / nI (d + 2), z.2 / nI (d + 2)) else rd (d + 1) z := rfl
    by_cases h1 : z.1 - z.1 / nI (d + 2) * nI (d + 2) = 0
    · by_cases h2 : z.2 - z.2 / nI (d + 2) * nI (d + 2) = 0
      · rw [er, if_pos (show z.1 - z.1 / nI (d + 2) * nI (d + 2) = 0 ∧ z.2 - z.2 / nI (d + 2) * nI (d + 2) = 0 from ⟨h1, h2⟩)] at e
        have t := p_X8_odds_45FFF_L45 (ex := sem 39) (v0 := v0) (x1 := nI k) (v2 := v2) (x3 := nI q) (w := w) g1 g2 h1 g2 h2 g2 g2
        rw [nI_dn] at t
        exact t.trans (ih (z.1 / nI (d + 2), z.2 / nI (d + 2)) .null .null (by omega) hq e)
      · rw [er, if_neg (show ¬ (z.1 - z.1 / nI (d + 2) * nI (d + 2) = 0 ∧ z.2 - z.2 / nI (d + 2) * nI (d + 2) = 0) from fun g => h2 g.2)] at e
        have t := p_X8_odds_45FFT_L45 (ex := sem 39) (v0 := v0) (x1 := nI k) (v2 := v2) (x3 := nI q) (w := w) g1 g2 h1 g2 h2
        rw [nI_dn] at t
        exact t.trans (ih z .null .null (by omega) hq e)
    · rw [er, if_neg (show ¬ (z.1 - z.1 / nI (d + 2) * nI (d + 2) = 0 ∧ z.2 - z.2 / nI (d + 2) * nI (d + 2) = 0) from fun g => h1 g.1)] at e
      have t := p_X8_odds_45FT_L45 (ex := sem 39) (v0 := v0) (x1 := nI k) (v2 := v2) (x3 := nI q) (x5 := z.2) (w := w) g1 g2 h1
      rw [nI_dn] at t
      exact t.trans (ih z .null .null (by omega) hq e)
theorem x_power {x0 : Int32} {k : Nat} (hk : k < 10) : sem 39 132 [.int x0, .int (nI k)] w = some (some (.long (pwL x0.toInt64 k 1)), w) := by
  refine e_X8_power.trans (p_X8_power_0_L5.trans ?_)
  have key : ∀ (m j : Nat) (a : Int64), m + j = k → runs (T_X8_power (sem 38)) (5, [.int x0, .int (nI k), .long a, .null, .int (nI j)], [], w) = some (some (.long (pwL x0.toInt64 m a)), w) := by
    intro m
    induction m with
    | zero =>
      intro j a hj
      have ej : j = k := by omega
      subst ej
      exact p_X8_power_5T_R (nI_le (Nat.le_refl _) (by omega))
    | succ m ih =>
      intro j a hj
      have t := p_X8_power_5F_L5 (ex := sem 38) (x0 := x0) (x1 := nI k) (x2 := a) (x4 := nI j) (w := w) (nI_ge (by omega) (by omega))
      rw [nI_1] at t
      exact t.trans (ih (j + 1) (a * x0.toInt64) (by omega))
  exact key k 0 1 (by omega)
theorem m_gcd {g : Int64} : ∀ (f : Nat) (a b : Int64) (v0 v2 v8 : Value), gcT f a b = some g → runs (T_X9_gcd (sem 38)) (6, [v0, .null, v2, .null, .long a, .null, .long b, .null, v8, .null], [], w) = some (some (.long g), w) := by
  intro f
  induction f with
  | zero => intro a b v0 v2 v8 h; exact absurd h (by simp [gcT])
  | succ f ih =>
    intro a b v0 v2 v8 h
    unfold gcT at h
    by_cases hb : b = 0
    · rw [if_pos hb] at h
      rw [← Option.some.inj h]
      exact p_X9_gcd_6T_R (by rw [lg_cmp_eq]; exact hb)
    · rw [if_neg hb] at h
      exact (p_X9_gcd_6F_L6 (by rw [lg_cmp_eq]; exact hb) hb).trans (ih b (a - a / b * b) _ _ _ h)
theorem m_odds {k p q : Nat} (hk : k < 10) (hp : p < 11) (hq : q < 2) : runs (T_X9_odds (sem 39)) (47, [.null, .int (nI k), .int (nI p), .int (nI q), .long 1, .null, .long 1, .null, .int 0, .null], [], w) = some (some (.long (odX k p q)), w) := by
  have key : ∀ (m j : Nat) (a b : Int64), m + j = k → runs (T_X9_odds (sem 39)) (47, [.null, .int (nI k), .int (nI p), .int (nI q), .long a, .null, .long b, .null, .int (nI j), .null], [], w) =
      runs (T_X9_odds (sem 39)) (47, [.null, .int (nI k), .int (nI p), .int (nI q), .long (pwL (10 - nI p).toInt64 m a), .null, .long (pwL 10 m b), .null, .int (nI k), .null], [], w) := by
    intro m
    induction m with
    | zero =>
      intro j a b hj
      have ej : j = k := by omega
      subst ej
      rfl
    | succ m ih =>
      intro j a b hj
      have t := p_X9_odds_47F_L47 (ex := sem 39) (v0 := .null) (x1 := nI k) (x2 := nI p) (x3 := nI q) (x4 := a) (x6 := b) (x8 := nI j) (w := w) (nI_ge (by omega) (by omega))
      rw [nI_1] at t
      exact t.trans (ih (j + 1) _ _ (by omega))
  refine (key k 0 1 1 (by omega)).trans ?_
  have h := od_all k hk p hp q hq
  unfold odOk at h
  cases hg : gcT 60 (pwL (10 - nI p).toInt64 k 1) (pwL 10 k 1) with
  | none => rw [hg] at h; exact absurd h Bool.false_ne_true
  | some g =>
    rw [hg] at h
    dsimp only at h
    by_cases g0 : g = 0
    · rw [if_pos g0] at h; exact absurd h (by decide)
    · rw [if_neg g0] at h
      have h2 := of_decide_eq_true h
      have eg : sem 39 191 [.long (pwL (10 - nI p).toInt64 k 1), .long (pwL 10 k 1)] w = some (some (.long g), w) := e_X9_gcd.trans (p_X9_gcd_0_L6.trans (m_gcd 60 _ _ _ _ _ hg))
      have g1 : nI k ≤ nI k := nI_le (Nat.le_refl _) (by omega)
      rw [← h2]
      rcases (by omega : q = 0 ∨ q = 1) with rfl | rfl
      · exact p_X9_odds_47TF_R g1 eg rfl g0
      · exact p_X9_odds_47TT_R g1 eg (by decide) g0
theorem i_gt {x n : Int32} {N : Nat} (hn : n = nI N) (hN : N + 1 < 2 ^ 31) (h : nI (N + 1) ≤ x) : n < x := by
  rcases i_cases x with g | ⟨t, ht, rfl⟩
  · exfalso
    have := nI_pos (n := N + 1) hN
    rw [fa_le] at h
    rw [fa_lt] at g this
    omega
  · rw [hn]
    refine nI_lt ?_ ht
    rcases Nat.lt_or_ge N t with h2 | h2
    · exact h2
    · exact absurd h (nI_ge (by omega) hN)
theorem agr_odds {x1 x2 x3 : Int32} (J : Jn w) : agrL 124 192 [.ref 0, .int x1, .int x2, .int x3] [.ref 34, .int x1, .int x2, .int x3] w := by
  obtain ⟨p, c, rs, sp, us, im, ht, bt, n0, tr, hp, ok, X, M⟩ := J
  have cth := fun (w' : Wd) (M' : MR c rs sp us im ht bt n0 tr w') => M'.2.2.2.2.2.2.2.1.thr
  rcases in_cs (x := x1) (N := 10) (by decide) with ⟨k, hk, rfl⟩ | h1
  · have a1 := nI_pos (n := k) (by omega)
    have a2 : ¬ (9 : Int32) < nI k := nI_nlt (a := 9) (b := k) (by omega) (by decide)
    have b1 := fun w' => m_inL1 (w := updI w' 34 0 0) (d := 38) (N := 10) (hi := 9) (by decide) (by decide) hk
    rcases in_cs (x := x2) (N := 11) (by decide) with ⟨o, ho, rfl⟩ | h2
    · have a3 := nI_pos (n := o) (by omega)
      have a4 : ¬ (10 : Int32) < nI o := nI_nlt (a := 10) (b := o) (by omega) (by decide)
      have b2 := fun w' => m_inL1 (w := updI w' 34 0 0) (d := 38) (N := 11) (hi := 10) (by decide) (by decide) ho
      rcases in_cs (x := x3) (N := 2) (by decide) with ⟨q, hq, rfl⟩ | h3
      · have a5 := x_yn1 (w := w) (d := 38) hq
        have b3 := fun w' => m_inL1 (w := updI w' 34 0 0) (d := 38) (N := 2) (hi := 1) (by decide) (by decide) hq
        have e := x_odds1 (w := w) (k := k) (q := q) 9 (10 - nI o, 10) .null (.int (nI o)) (by decide) hq (x_power hk)
        exact agr_qL hp ok X M (e_X8_odds.trans ((p_X8_odds_0FFFFT_L45 a1 a2 a3 a4 a5 (by decide)).trans e)) (xch.refl w)
          (fun w' M' => ⟨_, e_X9_odds.trans ((p_X9_odds_0FFT_L47 (b1 w') (by decide) (b2 w') (by decide) (b3 w') (by decide)).trans (m_odds hk ho hq)), mch.thr w', cth w' M'⟩)
      · exact agr_qL hp ok X M (v := -1) (e_X8_odds.trans (p_X8_odds_0FFFFF_R a1 a2 a3 a4 (x_yn0 (d := 38) h3) rfl)) (xch.refl w)
          (fun w' M' => ⟨_, e_X9_odds.trans (p_X9_odds_0FFF_R (b1 w') (by decide) (b2 w') (by decide) (m_inL0 (d := 38) (N := 2) (by decide) (by decide) h3) rfl), mch.thr w', cth w' M'⟩)
    · have fm := fun (w' : Wd) => e_X9_odds.trans (p_X9_odds_0FT_R (x3 := x3) (b1 w') (by decide) (m_inL0 (d := 38) (N := 11) (by decide) (by decide) h2) rfl)
      rcases out_cs h2 with g | ⟨g1, g2⟩
      · exact agr_qL hp ok X M (v := -1) (e_X8_odds.trans (p_X8_odds_0FFT_R a1 a2 g)) (xch.refl w) (fun w' M' => ⟨_, fm w', mch.thr w', cth w' M'⟩)
      · exact agr_qL hp ok X M (v := -1) (e_X8_odds.trans (p_X8_odds_0FFFT_R a1 a2 g1 (i_gt (N := 10) rfl (by decide) g2))) (xch.refl w) (fun w' M' => ⟨_, fm w', mch.thr w', cth w' M'⟩)
  · have fm := fun (w' : Wd) => e_X9_odds.trans (p_X9_odds_0T_R (x2 := x2) (x3 := x3) (m_inL0 (w := updI w' 34 0 0) (d := 38) (N := 10) (by decide) (by decide) h1) rfl)
    rcases out_cs h1 with g | ⟨g1, g2⟩
    · exact agr_qL hp ok X M (v := -1) (e_X8_odds.trans (p_X8_odds_0T_R g)) (xch.refl w) (fun w' M' => ⟨_, fm w', mch.thr w', cth w' M'⟩)
    · exact agr_qL hp ok X M (v := -1) (e_X8_odds.trans (p_X8_odds_0FT_R g1 (i_gt (N := 9) rfl (by decide) g2))) (xch.refl w) (fun w' M' => ⟨_, fm w', mch.thr w', cth w' M'⟩)
end ODDS

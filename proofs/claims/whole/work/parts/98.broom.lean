/-! broom agrees -/
def fo (k : Nat) (pk wk v : Int32) : Int32 := if k % 2 = 0 then (if wk = -9 ∧ v = 1 then pk else wk) else (if v = 0 then 0 else wk)
def foldw (k : Nat) (v : Int32) (w : Wd) : Wd := if k = 0 then w else updI w 52 (k - 1) (fo (k - 1) (w.1 51 (k - 1)) (w.1 52 (k - 1)) v)
def who (a b k : Nat) : Nat := if k % 2 = 0 then a else b
def pk : Nat → Int32
  | 0 => -1
  | i + 1 => nI i
def cbeg (k n y : Nat) (w : Wd) : Wd := if k < n then updI (updI (updI w 50 k (nI y)) 51 k (-1)) 52 k (if k % 2 = 0 then -9 else 1) else updI w 50 k (nI y)
theorem i_par : ∀ k : Nat, k < 5 → (nI k - nI k / 2 * 2 = 0 ↔ k % 2 = 0) := by decide +kernel
theorem pk_1 (j : Nat) : pk j + 1 = nI j := by
  cases j with
  | zero => rfl
  | succ i => exact nI_1 i
theorem pk_7 {j : Nat} (h : j ≤ 7) : ¬ pk j = 7 := by
  cases j with
  | zero => decide
  | succ i =>
    intro g
    have g2 : nI i = nI 7 := g
    rw [nI_eq (by omega) (by decide)] at g2
    omega
theorem nI_dn (k : Nat) : nI (k + 1) + (-1) = nI k := (Int32.sub_eq_add_neg _ _).symm.trans (nI_pred k)
section PLAYED
variable {c : Nat → Nat → Nat} {w w1 : Wd} {a b n x k : Nat} {L : Int32} {v1 v8 v9 v10 v11 : Value}
noncomputable abbrev plR (a b n x : Nat) (D L : Int32) (v1 v8 v9 v10 v11 : Value) (w : Wd) := runs (T_X9_played (sem 38)) (38, [.ref 34, v1, .int (nI a), .int (nI b), .int (nI n), .int (nI x), .int D, .int L, v8, v9, v10, v11], [], w)
theorem m_folds {v : Int32} (hk : k ≤ 4) : sem 38 188 [.ref 34, .int (nI k + (-1)), .int v] w = some (none, foldw k v w) := by
  cases k with
  | zero => exact e_X9_folds.trans (p_X9_folds_0T_R (by decide))
  | succ k =>
    rw [nI_dn]
    unfold foldw
    rw [if_neg (by omega), Nat.add_sub_cancel]
    have h0 := nI_pos (n := k) (by omega)
    have hv : vp_in (nI k) 4 := vp_in_nI (by omega) (by decide)
    have hc := nI_clamp (n := k) (by omega)
    have hp := i_par k (by omega)
    unfold fo
    refine e_X9_folds.trans ?_
    by_cases h : k % 2 = 0
    · rw [if_pos h]
      by_cases h9 : w.1 52 k = -9
      · by_cases h1 : v = 1
        · have t := p_X9_folds_0FFFF_R (ex := sem 37) (w := w) h0 (hp.mpr h) hv (by rw [hc]; exact h9) h1 hv hv
          rw [hc] at t
          rw [if_pos ⟨h9, h1⟩]
          exact t
        · have t := p_X9_folds_0FFFT_R (ex := sem 37) (w := w) h0 (hp.mpr h) hv (by rw [hc]; exact h9) h1 hv hv
          rw [hc] at t
          rw [if_neg (fun g => h1 g.2)]
          exact t
      · have t := p_X9_folds_0FFT_R (ex := sem 37) (x2 := v) (w := w) h0 (hp.mpr h) hv (by rw [hc]; exact h9) hv hv
        rw [hc] at t
        rw [if_neg (fun g => h9 g.1)]
        exact t
    · rw [if_neg h]
      by_cases h1 : v = 0
      · have t := p_X9_folds_0FTF_R (ex := sem 37) (w := w) h0 (fun g => h (hp.mp g)) h1 hv
        rw [hc] at t
        rw [if_pos h1]
        exact t
      · have t := p_X9_folds_0FTT_R (ex := sem 37) (w := w) h0 (fun g => h (hp.mp g)) h1 hv hv
        rw [hc] at t
        rw [if_neg h1]
        exact t
theorem try_none {j : Nat} {r : List Nat} (ha : a < 3) (hb3 : b < 3) (hk : k < n) (hn : n ≤ 4) (hj : j < 7) (hb : w.1 50 k = nI (cm r)) (hp : w.1 51 k = pk j)
    (e : sem 38 171 [.ref 34, .int (nI (cm r)), .int (nI j), .int (nI (2 ^ who a b k))] (updI w 51 k (nI j)) = some (some (.int (-9)), w1)) :
    plR a b n x (nI k) L v1 v8 v9 v10 v11 w = plR a b n x (nI k) L .null .null .null .null .null w1 := by
  have h0 := nI_pos (n := k) (by omega)
  have h4 : vp_in (nI k) 4 := vp_in_nI (by omega) (by decide)
  have h5 : vp_in (nI k) 5 := vp_in_nI (by omega) (by decide)
  have hc := nI_clamp (n := k) (by omega)
  have hne : ¬ nI k = nI n := fun g => by rw [nI_eq (by omega) (by omega)] at g; omega
  have k7 : ¬ w.1 51 (nI k).toNatClampNeg = 7 := by rw [hc, hp]; exact pk_7 (by omega)
  have k8 : ¬ (updI w 51 (nI k).toNatClampNeg (w.1 51 (nI k).toNatClampNeg + 1)).1 51 (nI k).toNatClampNeg = 7 := by
    rw [rd_e, hc, hp, pk_1]
    exact fun g => by have : nI j = nI 7 := g; rw [nI_eq (by omega) (by decide)] at this; omega
  unfold who at e
  by_cases h : k % 2 = 0
  · rw [if_pos h, ← i_pow (k := a) (by omega)] at e
    exact p_X9_played_38FFTFTTTT_L38 h0 ((i_par k (by omega)).mpr h) hne rfl h4 k7 rfl h4 h4 h4 k8 h5 h4 (by rw [rd_e, hc, hb, hp, pk_1]; exact e) rfl
  · rw [if_neg h, ← i_pow (k := b) (by omega)] at e
    exact p_X9_played_38FTTFTTTT_L38 h0 (fun g => h ((i_par k (by omega)).mp g)) hne rfl h4 k7 rfl h4 h4 h4 k8 h5 h4 (by rw [rd_e, hc, hb, hp, pk_1]; exact e) rfl
theorem try_some {j y : Nat} {r : List Nat} (ha : a < 3) (hb3 : b < 3) (hk : k < n) (hn : n ≤ 4) (hj : j < 7) (hy : y < 7776) (hb : w.1 50 k = nI (cm r)) (hp : w.1 51 k = pk j)
    (e : sem 38 171 [.ref 34, .int (nI (cm r)), .int (nI j), .int (nI (2 ^ who a b k))] (updI w 51 k (nI j)) = some (some (.int (nI y)), w1)) :
    plR a b n x (nI k) L v1 v8 v9 v10 v11 w = plR a b n x (nI (k + 1)) L .null .null .null .null .null (cbeg (k + 1) n y w1) := by
  have h0 := nI_pos (n := k) (by omega)
  have h4 : vp_in (nI k) 4 := vp_in_nI (by omega) (by decide)
  have h5 : vp_in (nI k) 5 := vp_in_nI (by omega) (by decide)
  have hc := nI_clamp (n := k) (by omega)
  have hne : ¬ nI k = nI n := fun g => by rw [nI_eq (by omega) (by omega)] at g; omega
  have k7 : ¬ w.1 51 (nI k).toNatClampNeg = 7 := by rw [hc, hp]; exact pk_7 (by omega)
  have k8 : ¬ (updI w 51 (nI k).toNatClampNeg (w.1 51 (nI k).toNatClampNeg + 1)).1 51 (nI k).toNatClampNeg = 7 := by
    rw [rd_e, hc, hp, pk_1]
    exact fun g => by have : nI j = nI 7 := g; rw [nI_eq (by omega) (by decide)] at this; omega
  have k9 : ¬ nI y = -9 := fun h => by
    have := nI_pos (n := y) (by omega)
    rw [h] at this
    exact this (by decide)
  have q5 : vp_in (nI k + 1) 5 := by rw [nI_1]; exact vp_in_nI (by omega) (by decide)
  have hc1 : (nI k + 1).toNatClampNeg = k + 1 := by rw [nI_1]; exact nI_clamp (by omega)
  unfold cbeg
  by_cases h : k % 2 = 0
  · have e' := e
    unfold who at e'
    rw [if_pos h, ← i_pow (k := a) (by omega)] at e'
    have hp2 := (i_par k (by omega)).mpr h
    by_cases hl : k + 1 < n
    · have q6 : ¬ nI n ≤ nI k + 1 := by rw [nI_1]; exact nI_ge hl (by omega)
      have q7 : vp_in (nI k + 1) 4 := by rw [nI_1]; exact vp_in_nI (by omega) (by decide)
      have q8 : ¬ (nI k + 1) - (nI k + 1) / 2 * 2 = 0 := by rw [nI_1]; exact fun g => by have := (i_par (k + 1) (by omega)).mp g; omega
      have t := p_X9_played_38FFTFTTTFFT_L38 (ex := sem 38) (v1 := v1) (v8 := v8) (v9 := v9) (v10 := v10) (v11 := v11) (w := w) (x2 := nI a) (x3 := nI b) (x5 := nI x) (x7 := L) h0 hp2 hne rfl h4 k7 rfl h4 h4 h4 k8 h5 h4 (by rw [rd_e, hc, hb, hp, pk_1]; exact e') k9 q5 q6 q7 q8 q7
      rw [hc1, nI_1] at t
      rw [if_pos hl, if_neg (by omega)]
      exact t
    · have q6 : nI n ≤ nI k + 1 := by rw [nI_1]; exact nI_le (by omega) (by omega)
      have t := p_X9_played_38FFTFTTTFT_L38 (ex := sem 38) (v1 := v1) (v8 := v8) (v9 := v9) (v10 := v10) (v11 := v11) (w := w) (x2 := nI a) (x3 := nI b) (x5 := nI x) (x7 := L) h0 hp2 hne rfl h4 k7 rfl h4 h4 h4 k8 h5 h4 (by rw [rd_e, hc, hb, hp, pk_1]; exact e') k9 q5 q6
      rw [hc1, nI_1] at t
      rw [if_neg hl]
      exact t
  · have e' := e
    unfold who at e'
    rw [if_neg h, ← i_pow (k := b) (by omega)] at e'
    have hp2 : ¬ nI k - nI k / 2 * 2 = 0 := fun g => h ((i_par k (by omega)).mp g)
    by_cases hl : k + 1 < n
    · have q6 : ¬ nI n ≤ nI k + 1 := by rw [nI_1]; exact nI_ge hl (by omega)
      have q7 : vp_in (nI k + 1) 4 := by rw [nI_1]; exact vp_in_nI (by omega) (by decide)
      have q8 : (nI k + 1) - (nI k + 1) / 2 * 2 = 0 := by rw [nI_1]; exact (i_par (k + 1) (by omega)).mpr (by omega)
      have t := p_X9_played_38FTTFTTTFFF_L38 (ex := sem 38) (v1 := v1) (v8 := v8) (v9 := v9) (v10 := v10) (v11 := v11) (w := w) (x2 := nI a) (x3 := nI b) (x5 := nI x) (x7 := L) h0 hp2 hne rfl h4 k7 rfl h4 h4 h4 k8 h5 h4 (by rw [rd_e, hc, hb, hp, pk_1]; exact e') k9 q5 q6 q7 q8 q7
      rw [hc1, nI_1] at t
      rw [if_pos hl, if_pos (by omega)]
      exact t
    · have q6 : nI n ≤ nI k + 1 := by rw [nI_1]; exact nI_le (by omega) (by omega)
      have t := p_X9_played_38FTTFTTTFT_L38 (ex := sem 38) (v1 := v1) (v8 := v8) (v9 := v9) (v10 := v10) (v11 := v11) (w := w) (x2 := nI a) (x3 := nI b) (x5 := nI x) (x7 := L) h0 hp2 hne rfl h4 k7 rfl h4 h4 h4 k8 h5 h4 (by rw [rd_e, hc, hb, hp, pk_1]; exact e') k9 q5 q6
      rw [hc1, nI_1] at t
      rw [if_neg hl]
      exact t
theorem try_7 {r : List Nat} (hk : k < n) (hn : n ≤ 4) (hr : cm r < 7776) (hb : w.1 50 k = nI (cm r)) (hp : w.1 51 k = pk 7) :
    plR a b n x (nI k) L v1 v8 v9 v10 v11 w = plR a b n x (nI (k + 1)) L .null .null .null .null .null (cbeg (k + 1) n (cm r) (updI w 51 k (nI 7))) := by
  have h0 := nI_pos (n := k) (by omega)
  have h4 : vp_in (nI k) 4 := vp_in_nI (by omega) (by decide)
  have h5 : vp_in (nI k) 5 := vp_in_nI (by omega) (by decide)
  have hc := nI_clamp (n := k) (by omega)
  have hne : ¬ nI k = nI n := fun g => by rw [nI_eq (by omega) (by omega)] at g; omega
  have k7 : ¬ w.1 51 (nI k).toNatClampNeg = 7 := by rw [hc, hp]; exact pk_7 (by omega)
  have k8 : (updI w 51 (nI k).toNatClampNeg (w.1 51 (nI k).toNatClampNeg + 1)).1 51 (nI k).toNatClampNeg = 7 := by
    rw [rd_e, hc, hp, pk_1]
    rfl
  have k9 : ¬ w.1 50 (nI k).toNatClampNeg = -9 := fun h => by
    rw [hc, hb] at h
    have := nI_pos (n := cm r) (by omega)
    rw [h] at this
    exact this (by decide)
  have q5 : vp_in (nI k + 1) 5 := by rw [nI_1]; exact vp_in_nI (by omega) (by decide)
  have hc1 : (nI k + 1).toNatClampNeg = k + 1 := by rw [nI_1]; exact nI_clamp (by omega)
  unfold cbeg
  by_cases h : k % 2 = 0
  · have hp2 := (i_par k (by omega)).mpr h
    by_cases hl : k + 1 < n
    · have q6 : ¬ nI n ≤ nI k + 1 := by rw [nI_1]; exact nI_ge hl (by omega)
      have q7 : vp_in (nI k + 1) 4 := by rw [nI_1]; exact vp_in_nI (by omega) (by decide)
      have q8 : ¬ (nI k + 1) - (nI k + 1) / 2 * 2 = 0 := by rw [nI_1]; exact fun g => by have := (i_par (k + 1) (by omega)).mp g; omega
      have t := p_X9_played_38FFTFTTFFFT_L38 (ex := sem 38) (v1 := v1) (v8 := v8) (v9 := v9) (v10 := v10) (v11 := v11) (w := w) (x2 := nI a) (x3 := nI b) (x5 := nI x) (x7 := L) h0 hp2 hne rfl h4 k7 rfl h4 h4 h4 k8 h5 k9 q5 q6 q7 q8 q7
      rw [hc1, nI_1, hc, hp, pk_1, hb] at t
      rw [if_pos hl, if_neg (by omega)]
      exact t
    · have q6 : nI n ≤ nI k + 1 := by rw [nI_1]; exact nI_le (by omega) (by omega)
      have t := p_X9_played_38FFTFTTFFT_L38 (ex := sem 38) (v1 := v1) (v8 := v8) (v9 := v9) (v10 := v10) (v11 := v11) (w := w) (x2 := nI a) (x3 := nI b) (x5 := nI x) (x7 := L) h0 hp2 hne rfl h4 k7 rfl h4 h4 h4 k8 h5 k9 q5 q6
      rw [hc1, nI_1, hc, hp, pk_1, hb] at t
      rw [if_neg hl]
      exact t
  · have hp2 : ¬ nI k - nI k / 2 * 2 = 0 := fun g => h ((i_par k (by omega)).mp g)
    by_cases hl : k + 1 < n
    · have q6 : ¬ nI n ≤ nI k + 1 := by rw [nI_1]; exact nI_ge hl (by omega)
      have q7 : vp_in (nI k + 1) 4 := by rw [nI_1]; exact vp_in_nI (by omega) (by decide)
      have q8 : (nI k + 1) - (nI k + 1) / 2 * 2 = 0 := by rw [nI_1]; exact (i_par (k + 1) (by omega)).mpr (by omega)
      have t := p_X9_played_38FTTFTTFFFF_L38 (ex := sem 38) (v1 := v1) (v8 := v8) (v9 := v9) (v10 := v10) (v11 := v11) (w := w) (x2 := nI a) (x3 := nI b) (x5 := nI x) (x7 := L) h0 hp2 hne rfl h4 k7 rfl h4 h4 h4 k8 h5 k9 q5 q6 q7 q8 q7
      rw [hc1, nI_1, hc, hp, pk_1, hb] at t
      rw [if_pos hl, if_pos (by omega)]
      exact t
    · have q6 : nI n ≤ nI k + 1 := by rw [nI_1]; exact nI_le (by omega) (by omega)
      have t := p_X9_played_38FTTFTTFFT_L38 (ex := sem 38) (v1 := v1) (v8 := v8) (v9 := v9) (v10 := v10) (v11 := v11) (w := w) (x2 := nI a) (x3 := nI b) (x5 := nI x) (x7 := L) h0 hp2 hne rfl h4 k7 rfl h4 h4 h4 k8 h5 k9 q5 q6
      rw [hc1, nI_1, hc, hp, pk_1, hb] at t
      rw [if_neg hl]
      exact t
theorem pl_over {v : Int32} (hk : k < n) (hn : n ≤ 4) (hp : w.1 51 k = nI 7) (hv : v = if k % 2 = 0 then (if w.1 52 k = -9 then 0 else 1) else w.1 52 k) :
    plR a b n x (nI k) L v1 v8 v9 v10 v11 w = plR a b n x (nI k + (-1)) v .null .null .null .null .null (foldw k v w) := by
  have h0 := nI_pos (n := k) (by omega)
  have h4 : vp_in (nI k) 4 := vp_in_nI (by omega) (by decide)
  have hc := nI_clamp (n := k) (by omega)
  have hne : ¬ nI k = nI n := fun g => by rw [nI_eq (by omega) (by omega)] at g; omega
  have k7 : w.1 51 (nI k).toNatClampNeg = 7 := by rw [hc, hp]; rfl
  by_cases h : k % 2 = 0
  · rw [if_pos h] at hv
    have hp2 := (i_par k (by omega)).mpr h
    by_cases h9 : w.1 52 k = -9
    · rw [if_pos h9] at hv
      subst hv
      exact p_X9_played_38FFTFFFTFF_L38 h0 hp2 hne rfl h4 k7 (by decide) rfl hp2 h4 (by rw [hc]; exact h9) (m_folds (by omega))
    · rw [if_neg h9] at hv
      subst hv
      exact p_X9_played_38FFTFFFTFT_L38 h0 hp2 hne rfl h4 k7 (by decide) rfl hp2 h4 (by rw [hc]; exact h9) (m_folds (by omega))
  · rw [if_neg h] at hv
    have hp2 : ¬ nI k - nI k / 2 * 2 = 0 := fun g => h ((i_par k (by omega)).mp g)
    have t := p_X9_played_38FTTFFFTT_L38 (ex := sem 38) (v1 := v1) (v8 := v8) (v9 := v9) (v10 := v10) (v11 := v11) (w := w) (x2 := nI a) (x3 := nI b) (x5 := nI x) (x7 := L) h0 hp2 hne rfl h4 k7 (by decide) rfl hp2 h4 (m_folds (by omega))
    rw [hc, ← hv] at t
    exact t
theorem pl_end {r : List Nat} (hn : n ≤ 4) (hx : x < 10) (hc : okc c) (hr : okr (c 0 0) r) (M : MS c w) (hb : w.1 50 n = nI (cm r)) :
    plR a b n x (nI n) L v1 v8 v9 v10 v11 w = plR a b n x (nI n + (-1)) (b2i ((wk c r).testBit x)) .null .null .null .null .null (foldw n (b2i ((wk c r).testBit x)) w) := by
  have h0 := nI_pos (n := n) (by omega)
  have h5 : vp_in (nI n) 5 := vp_in_nI (by omega) (by decide)
  have hcl := nI_clamp (n := n) (by omega)
  have hl := wk_lt hc hr.2
  have e : (nI (wk c r) >>> (nI x &&& 31)) &&& 1 = b2i ((wk c r).testBit x) := by
    rw [i_bit (by omega) (by omega), Nat.testBit_eq_decide_div_mod_eq]
    rcases Nat.mod_two_eq_zero_or_one (wk c r / 2 ^ x) with h | h
    · rw [h]; rfl
    · rw [h]; rfl
  have e1 := m_worksOf (d := 37) M hc hr
  by_cases h : n % 2 = 0
  · have t := p_X9_played_38FFFTFF_L38 (ex := sem 38) (v1 := v1) (v8 := v8) (v9 := v9) (v10 := v10) (v11 := v11) (w := w) (x2 := nI a) (x3 := nI b) (x4 := nI n) (x5 := nI x) (x7 := L) h0 ((i_par n (by omega)).mpr h) rfl (by decide) (by decide) (by decide) h5 (by rw [hcl, hb]; exact e1) (m_folds hn)
    rw [e] at t
    exact t
  · have t := p_X9_played_38FTFTFF_L38 (ex := sem 38) (v1 := v1) (v8 := v8) (v9 := v9) (v10 := v10) (v11 := v11) (w := w) (x2 := nI a) (x3 := nI b) (x4 := nI n) (x5 := nI x) (x7 := L) h0 (fun g => h ((i_par n (by omega)).mp g)) rfl (by decide) (by decide) (by decide) h5 (by rw [hcl, hb]; exact e1) (m_folds hn)
    rw [e] at t
    exact t
end PLAYED

/-! the reference side: rows, the school -/
theorem i_div6 {c s : Nat} (h : 6 * c + s + 1 < 2 ^ 31) (hs : s < 5) : nI (6 * c + s + 1) / 6 = nI c := by
  have e2 := pk_div (a := 6 * c + s + 1) (d := 6) h (by decide) (by decide)
  rw [show (6 * c + s + 1) / 6 = c by omega] at e2
  exact e2
theorem i_mod6 {c s : Nat} (h : 6 * c + s + 1 < 2 ^ 31) (hs : s < 5) : nI (6 * c + s + 1) - nI (6 * c + s + 1) / 6 * 6 = nI (s + 1) := by
  have e2 := pk_rem (a := 6 * c + s + 1) (d := 6) h (by decide) (by decide)
  rw [show (6 * c + s + 1) % 6 = s + 1 by omega] at e2
  exact e2
theorem cm_cons (s : Nat) (r : List Nat) : cm (s :: r) = 6 * cm r + s + 1 := rfl
/-- the uppermost as the reference says it; -9: none -/
def spI : List Nat → Int32
  | [] => -9
  | s :: _ => nI s
def MS (c : Nat → Nat → Nat) (w : Wd) : Prop :=
  w.1 34 13 = nI (c 0 0) ∧ w.1 34 14 = nI (c 0 1) ∧ w.1 34 15 = nI (c 0 2) ∧ w.1 39 3 = nI (c 0 3) ∧ w.1 39 4 = nI (c 0 4) ∧ w.1 39 5 = nI (c 0 5) ∧
  (∀ s : Nat, s < c 0 0 → w.1 36 (4 * s) = nI (c 1 s) ∧ w.1 36 (4 * s + 1) = nI (c 2 s) ∧ w.1 36 (4 * s + 2) = nI (c 3 s) ∧ w.1 36 (4 * s + 3) = nI (c 4 s)) ∧
  ∀ q : Nat, q < c 0 2 → w.1 38 q = nI (c 5 q)
section MROW
variable {d : Nat} {c : Nat → Nat → Nat} {w : Wd}
theorem m_in0 {x : Int32} {n : Nat} (h5 : n < 2 ^ 31) : sem (d + 1) 135 [.int x, .int 0, .int (nI n - 1)] w = some (some (.int (if ¬ x < 0 ∧ x < nI n then 1 else 0)), w) := by
  have key : nI n - 1 < x ↔ ¬ x < 0 ∧ ¬ x < nI n ∨ (x < 0 ∧ nI n - 1 < x) := by
    rcases Nat.eq_zero_or_pos n with h0 | h0
    · subst h0
      have e : nI 0 - 1 = -1 := by decide
      rw [e]
      by_cases hx : x < 0
      · constructor
        · intro h; exact Or.inr ⟨hx, h⟩
        · rintro (h | h)
          · exact absurd hx h.1
          · exact h.2
      · have : (-1 : Int32) < x := by
          rw [fa_lt] at hx ⊢
          have e1 : (0 : Int32).toInt = 0 := by decide
          have e2 : (-1 : Int32).toInt = -1 := by decide
          rw [e1] at hx
          rw [e2]
          omega
        constructor
        · intro _
          exact Or.inl ⟨hx, hx⟩
        · intro _; exact this
    · obtain ⟨k, rfl⟩ : ∃ k, n = k + 1 := ⟨n - 1, by omega⟩
      have e : nI (k + 1) - 1 = nI k := nI_pred k
      rw [e]
      by_cases hx : x < 0
      · constructor
        · intro h; exact Or.inr ⟨hx, h⟩
        · rintro (h | h)
          · exact absurd hx h.1
          · exact h.2
      · obtain ⟨m, hm, rfl⟩ := nI_of hx
        constructor
        · intro h
          refine Or.inl ⟨hx, fun h2 => ?_⟩
          rw [fa_lt, nI_toInt (by omega), nI_toInt hm] at h
          rw [fa_lt, nI_toInt hm, nI_toInt h5] at h2
          omega
        · rintro (h | h)
          · have h2 := h.2
            rw [fa_lt, nI_toInt hm, nI_toInt h5] at h2
            exact nI_lt (by omega) hm
          · exact absurd h.1 hx
  by_cases h1 : x < 0
  · rw [if_neg (fun h => h.1 h1)]
    exact e_X9_in.trans (p_X9_in_0T_R h1)
  · by_cases h2 : x < nI n
    · rw [if_pos ⟨h1, h2⟩]
      exact e_X9_in.trans (p_X9_in_0FF_R h1 (fun h => by
        rcases key.mp h with k | k
        · exact k.2 h2
        · exact h1 k.1))
    · rw [if_neg (fun h => h2 h.2)]
      exact e_X9_in.trans (p_X9_in_0FT_R h1 (key.mpr (Or.inl ⟨h1, h2⟩)))
theorem ite01 {p : Prop} [Decidable p] : (if p then (1 : Int32) else 0) = 0 ∨ (if p then (1 : Int32) else 0) = 1 := by
  by_cases h : p
  · exact Or.inr (if_pos h)
  · exact Or.inl (if_neg h)
theorem m_isSpell {x : Int32} (M : MS c w) (hc : okc c) : sem (d + 2) 151 [.ref 34, .int x] w = some (some (.int (if ¬ x < 0 ∧ x < nI (c 0 0) then 1 else 0)), w) := by
  have h5 := hc.1
  have e := m_in0 (d := d) (x := x) (n := c 0 0) (w := w) (by omega)
  rw [← M.1] at e
  rw [← M.1]
  exact e_X9_isSpell.trans (p_X9_isSpell_0_R e ite01)
theorem m_isThing {x : Int32} (M : MS c w) (hc : okc c) : sem (d + 2) 152 [.ref 34, .int x] w = some (some (.int (if ¬ x < 0 ∧ x < nI (c 0 1) then 1 else 0)), w) := by
  have h5 := hc.2.1
  have e := m_in0 (d := d) (x := x) (n := c 0 1) (w := w) (by omega)
  rw [← M.2.1] at e
  rw [← M.2.1]
  exact e_X9_isThing.trans (p_X9_isThing_0_R e ite01)
theorem m_isPupil {x : Int32} (M : MS c w) (hc : okc c) : sem (d + 2) 153 [.ref 34, .int x] w = some (some (.int (if ¬ x < 0 ∧ x < nI (c 0 2) then 1 else 0)), w) := by
  have h5 := hc.2.2.1
  have e := m_in0 (d := d) (x := x) (n := c 0 2) (w := w) (by omega)
  rw [← M.2.2.1] at e
  rw [← M.2.2.1]
  exact e_X9_isPupil.trans (p_X9_isPupil_0_R e ite01)
theorem l_layersOf : ∀ (r : List Nat) (k : Nat) (v0 : Value), okr 5 r → runs (T_X9_layersOf (sem d)) (4, [v0, .int (nI k), .int (nI (cm r))], [], w) = some (some (.int (nI (k + r.length))), w) := by
  intro r
  induction r with
  | nil => intro k v0 h; exact p_X9_layersOf_4T_R (by decide)
  | cons s r ih =>
    intro k v0 h
    have hb := cm_lt h
    have hs := h.hd
    rw [cm_cons] at hb ⊢
    refine (p_X9_layersOf_4F_L4 (nI_nle (by omega) (by omega))).trans ?_
    rw [nI_1, i_div6 (by omega) hs]
    refine (ih (k + 1) .null h.tl).trans ?_
    rw [show k + 1 + r.length = k + (s :: r).length by simp only [List.length_cons]; omega]
theorem m_layersOf {r : List Nat} (h : okr 5 r) : sem (d + 1) 155 [.int (nI (cm r))] w = some (some (.int (nI r.length)), w) := by
  refine e_X9_layersOf.trans (p_X9_layersOf_0_L4.trans ?_)
  refine (l_layersOf r 0 _ h).trans ?_
  rw [Nat.zero_add]
theorem l_mworksOf (M : MS c w) (hc : okc c) : ∀ (r : List Nat) (o : Nat) (v1 v5 : Value), okr (c 0 0) r → runs (T_X9_worksOf (sem d)) (7, [.ref 34, v1, .int (nI o), .int (nI (cm r)), .int 1, v5], [], w) = some (some (.int (nI (o ||| wk c r))), w) := by
  intro r
  induction r with
  | nil =>
    intro o v1 v5 h
    have e : o ||| wk c [] = o := Nat.or_zero o
    rw [e]
    exact p_X9_worksOf_7T_R (by decide)
  | cons s r ih =>
    intro o v1 v5 h
    have h5 := hc.1
    have hr5 := h.five hc
    have hb := cm_lt hr5
    have hs := h.hd
    obtain ⟨g1, g2, g3, g4⟩ := hc.2.2.2.2.2.2.1 s hs
    obtain ⟨q1, q2, q3, q4⟩ := M.2.2.2.2.2.2.1 s hs
    rw [cm_cons] at hb ⊢
    have e0 : 4 * (nI (6 * cm r + s + 1) - nI (6 * cm r + s + 1) / 6 * 6 - 1) = nI (4 * s) := by
      rw [i_mod6 (by omega) (by omega), show nI (s + 1) - 1 = nI s from nI_pred s, Int32.mul_comm]
      have k1 : nI s * 4 = nI (s * 4) := pk_mul s 4
      rw [k1, Nat.mul_comm]
    have v1' : vp_in (4 * (nI (6 * cm r + s + 1) - nI (6 * cm r + s + 1) / 6 * 6 - 1)) 40 := by rw [e0]; exact vp_in_nI (by omega) (by decide)
    have v2' : vp_in (4 * (nI (6 * cm r + s + 1) - nI (6 * cm r + s + 1) / 6 * 6 - 1) + 1) 40 := by rw [e0, nI_1]; exact vp_in_nI (by omega) (by decide)
    have h0 : ¬ nI (6 * cm r + s + 1) ≤ 0 := nI_nle (by omega) (by omega)
    have e3 : nI o ||| ((1 : Int32) <<< (w.1 36 (4 * (nI (6 * cm r + s + 1) - nI (6 * cm r + s + 1) / 6 * 6 - 1)).toNatClampNeg &&& 31)) = nI (o ||| 2 ^ c 1 s) := by rw [e0, nI_clamp (by omega), q1, i_pow (by omega), i_or]
    have e4 : w.1 36 (4 * (nI (6 * cm r + s + 1) - nI (6 * cm r + s + 1) / 6 * 6 - 1) + 1).toNatClampNeg = nI (c 2 s) := by rw [e0, nI_1, nI_clamp (by omega), q2]
    rcases (by omega : c 2 s = 0 ∨ c 2 s = 1) with hg | hg
    · refine (p_X9_worksOf_7FFT_L7 h0 (by decide) v1' v2' (by rw [e4, hg]; decide)).trans ?_
      rw [e3, i_div6 (by omega) (by omega), wk_cons, if_neg (by omega)]
      by_cases hz : cm r = 0
      · exact p_X9_worksOf_7T_R (by rw [hz]; decide)
      · exact p_X9_worksOf_7FT_R (nI_nle (by omega) (by omega)) rfl
    · refine (p_X9_worksOf_7FFF_L7 h0 (by decide) v1' v2' (by rw [e4, hg]; rfl)).trans ?_
      rw [e3, i_div6 (by omega) (by omega), wk_cons, if_pos hg, ← Nat.or_assoc]
      exact ih _ .null .null h.tl
theorem m_worksOf {r : List Nat} (M : MS c w) (hc : okc c) (h : okr (c 0 0) r) : sem (d + 1) 156 [.ref 34, .int (nI (cm r))] w = some (some (.int (nI (wk c r))), w) := by
  refine e_X9_worksOf.trans (p_X9_worksOf_0_L7.trans ?_)
  refine (l_mworksOf M hc r 0 _ _ h).trans ?_
  rw [Nat.zero_or]
theorem cm_tail {s : Nat} {r : List Nat} (h : okr 5 (s :: r)) : nI (cm (s :: r)) / 6 = nI (cm r) := by
  have hb := cm_lt h
  rw [cm_cons] at hb ⊢
  exact i_div6 (by omega) h.hd
theorem cm_tl {r : List Nat} (h : okr 5 r) : nI (cm r) / 6 = nI (cm r.tail) := by
  cases r with
  | nil => decide
  | cons s r => exact cm_tail h
theorem l_spellAt9 {n : Nat} (hn : n < 2 ^ 31) : ∀ (m k : Nat) (r : List Nat) (v0 : Value), m + k = n → okr 5 r → runs (T_X9_spellAt (sem d)) (4, [v0, .int (nI n), .int (nI (cm r)), .int (nI k)], [], w) = some (some (.int (spI (r.drop m))), w) := by
  intro m
  induction m with
  | zero =>
    intro k r v0 hk h
    have h1 : nI n ≤ nI k := nI_le (by omega) (by omega)
    cases r with
    | nil => exact p_X9_spellAt_4TF_R h1 rfl
    | cons s r =>
      have hb := cm_lt h
      have hs := h.hd
      rw [cm_cons] at hb ⊢
      refine (p_X9_spellAt_4TT_R h1 (fun hh => ?_)).trans ?_
      · have := (nI_eq (b := 0) (by omega) (by decide)).mp hh
        omega
      · rw [i_mod6 (by omega) hs, show nI (s + 1) - 1 = nI s from nI_pred s]
        rfl
  | succ m ih =>
    intro k r v0 hk h
    refine (p_X9_spellAt_4F_L4 (nI_ge (by omega) hn)).trans ?_
    rw [nI_1, cm_tl h]
    refine (ih (k + 1) r.tail .null (by omega) h.tail).trans ?_
    rw [← List.drop_one, List.drop_drop, Nat.add_comm]
theorem m_spellAt {n : Nat} {r : List Nat} (h : okr 5 r) (hn : n < 2 ^ 31) : sem (d + 1) 158 [.int (nI (cm r)), .int (nI n)] w = some (some (.int (spI (r.drop n))), w) :=
  e_X9_spellAt.trans (p_X9_spellAt_0_L4.trans (l_spellAt9 hn n 0 r _ (by omega) h))
theorem l_withoutTop {n : Nat} (hn : n < 2 ^ 31) : ∀ (m k : Nat) (r : List Nat) (v0 : Value), m + k = n → okr 5 r → runs (T_X9_withoutTop (sem d)) (4, [v0, .int (nI n), .int (nI (cm r)), .int (nI k)], [], w) = some (some (.int (nI (cm (r.drop m)))), w) := by
  intro m
  induction m with
  | zero =>
    intro k r v0 hk h
    exact p_X9_withoutTop_4T_R (nI_le (by omega) (by omega))
  | succ m ih =>
    intro k r v0 hk h
    refine (p_X9_withoutTop_4F_L4 (nI_ge (by omega) hn)).trans ?_
    rw [nI_1, cm_tl h]
    refine (ih (k + 1) r.tail .null (by omega) h.tail).trans ?_
    rw [← List.drop_one, List.drop_drop, Nat.add_comm]
theorem m_withoutTop {n : Nat} {r : List Nat} (h : okr 5 r) (hn : n < 2 ^ 31) : sem (d + 1) 182 [.int (nI (cm r)), .int (nI n)] w = some (some (.int (nI (cm (r.drop n)))), w) :=
  e_X9_withoutTop.trans (p_X9_withoutTop_0_L4.trans (l_withoutTop hn n 0 r _ (by omega) h))
theorem m_may {q s : Nat} (M : MS c w) (hc : okc c) (hq : q < c 0 2) (hs : s < 5) : sem (d + 1) 161 [.ref 34, .int (nI q), .int (nI s)] w = some (some (.int (b2i ((c 5 q).testBit s))), w) := by
  have h3 := hc.2.2.1
  have h5 := c5_lt hc hq
  have e := M.2.2.2.2.2.2.2 q hq
  have v : vp_in (nI q) 6 := vp_in_nI (by omega) (by decide)
  have e2 : w.1 38 (nI q).toNatClampNeg = nI (c 5 q) := by rw [nI_clamp (by omega), e]
  cases hb : (c 5 q).testBit s with
  | true => exact e_X9_may.trans (p_X9_may_0F_R v (by rw [e2]; exact (i_bit1 (by omega) (by omega)).mpr hb))
  | false => exact e_X9_may.trans (p_X9_may_0T_R v (by rw [e2]; exact fun h => by rw [(i_bit1 (by omega) (by omega)).mp h] at hb; exact absurd hb (by decide)))
end MROW

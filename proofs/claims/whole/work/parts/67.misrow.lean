/-! the reference side: which numbers are rows -/
def vl (c : Nat → Nat → Nat) : Nat → Nat → Bool
  | 0, _ => true
  | n + 1, y => if y = 0 then true else decide (1 ≤ y % 6 ∧ y % 6 ≤ c 0 0) && vl c n (y / 6)
theorem vl_iff {c : Nat → Nat → Nat} : ∀ n y, y < 6 ^ n → (vl c n y = true ↔ ∃ r : List Nat, r.length ≤ n ∧ (∀ s ∈ r, s < c 0 0) ∧ (∀ s ∈ r, s < 5) ∧ cm r = y) := by
  intro n
  induction n with
  | zero =>
    intro y hy
    have h0 : y = 0 := by simpa using hy
    subst h0
    exact ⟨fun _ => ⟨[], Nat.le_refl _, fun s h => absurd h List.not_mem_nil, fun s h => absurd h List.not_mem_nil, rfl⟩, fun _ => rfl⟩
  | succ n ih =>
    intro y hy
    rw [Nat.pow_succ] at hy
    have h1 := ih (y / 6) (by omega)
    have e : vl c (n + 1) y = if y = 0 then true else decide (1 ≤ y % 6 ∧ y % 6 ≤ c 0 0) && vl c n (y / 6) := rfl
    rw [e]
    by_cases h0 : y = 0
    · rw [if_pos h0]
      exact ⟨fun _ => ⟨[], Nat.zero_le _, fun s h => absurd h List.not_mem_nil, fun s h => absurd h List.not_mem_nil, h0.symm⟩, fun _ => rfl⟩
    · rw [if_neg h0, Bool.and_eq_true, decide_eq_true_iff, h1]
      constructor
      · rintro ⟨⟨a1, a2⟩, r, r1, r2, r3, r4⟩
        refine ⟨(y % 6 - 1) :: r, by simp only [List.length_cons]; omega, fun s hs => ?_, fun s hs => ?_, by rw [cm_cons, r4]; omega⟩
        · rcases List.mem_cons.mp hs with rfl | hs
          · omega
          · exact r2 s hs
        · rcases List.mem_cons.mp hs with rfl | hs
          · omega
          · exact r3 s hs
      · rintro ⟨r, r1, r2, r3, r4⟩
        cases r with
        | nil => exact absurd r4.symm h0
        | cons s r =>
          have a1 := r2 s List.mem_cons_self
          have a2 := r3 s List.mem_cons_self
          rw [cm_cons] at r4
          simp only [List.length_cons] at r1
          refine ⟨⟨by omega, by omega⟩, r, by omega, fun z hz => r2 z (List.mem_cons_of_mem _ hz), fun z hz => r3 z (List.mem_cons_of_mem _ hz), by omega⟩
theorem vl5 {c : Nat → Nat → Nat} (hc : okc c) {y : Nat} (hy : y < 7776) : vl c 5 y = true ↔ ∃ r, okr (c 0 0) r ∧ cm r = y := by
  have h5 := hc.1
  rw [vl_iff 5 y (by rw [show 6 ^ 5 = 7776 by decide]; exact hy)]
  constructor
  · rintro ⟨r, r1, r2, _, r4⟩
    exact ⟨r, ⟨r1, r2⟩, r4⟩
  · rintro ⟨r, ⟨r1, r2⟩, r4⟩
    exact ⟨r, r1, r2, fun s hs => by have := r2 s hs; omega, r4⟩
section MISROW
variable {d : Nat} {c : Nat → Nat → Nat} {w : Wd}
theorem m_inN {a lo hi : Nat} (ha : a < 2 ^ 31) (hl : lo < 2 ^ 31) (hh : hi < 2 ^ 31) : sem (d + 1) 135 [.int (nI a), .int (nI lo), .int (nI hi)] w = some (some (.int (b2i (decide (lo ≤ a ∧ a ≤ hi)))), w) := by
  by_cases h1 : lo ≤ a
  · have k1 : ¬ nI a < nI lo := nI_nlt h1 ha
    by_cases h2 : a ≤ hi
    · have k2 : ¬ nI hi < nI a := nI_nlt h2 hh
      rw [b2i_t (decide_eq_true ⟨h1, h2⟩)]
      exact e_X9_in.trans (p_X9_in_0FF_R k1 k2)
    · rw [b2i_f (decide_eq_false (fun h => h2 h.2))]
      exact e_X9_in.trans (p_X9_in_0FT_R k1 (nI_lt (by omega) ha))
  · rw [b2i_f (decide_eq_false (fun h => h1 h.1))]
    exact e_X9_in.trans (p_X9_in_0T_R (nI_lt (by omega) hl))
theorem l_isRow (hc : okc c) (M : MS c w) : ∀ (n y : Nat) (b : Bool) (v1 : Value), y < 6 ^ n → y < 7776 → runs (T_X9_isRow (sem (d + 1))) (4, [.ref 34, v1, .int (b2i b), .int (nI y)], [], w) = some (some (.int (b2i (b && vl c n y))), w) := by
  have h5 := hc.1
  intro n
  induction n with
  | zero =>
    intro y b v1 hy _
    have h0 : y = 0 := by simpa using hy
    subst h0
    rw [show vl c 0 0 = true from rfl, Bool.and_true]
    exact p_X9_isRow_4T_R (by decide) (b2i_01 b)
  | succ n ih =>
    intro y b v1 hy h7
    rw [Nat.pow_succ] at hy
    have e : vl c (n + 1) y = if y = 0 then true else decide (1 ≤ y % 6 ∧ y % 6 ≤ c 0 0) && vl c n (y / 6) := rfl
    rw [e]
    by_cases h0 : y = 0
    · rw [if_pos h0, Bool.and_true]
      exact p_X9_isRow_4T_R (by rw [h0]; decide) (b2i_01 b)
    · rw [if_neg h0]
      have k0 : ¬ nI y ≤ 0 := nI_nle (by omega) (by omega)
      have d6 : nI y / 6 = nI (y / 6) := pk_div (a := y) (d := 6) (by omega) (by decide) (by decide)
      have m6 : nI y - nI y / 6 * 6 = nI (y % 6) := pk_rem (a := y) (d := 6) (by omega) (by decide) (by decide)
      have nx := fun b => ih (y / 6) b .null (by omega) (by omega)
      cases b with
      | false =>
        refine (p_X9_isRow_4FT_L4 k0 rfl).trans ?_
        rw [d6]
        have := nx false
        rw [Bool.false_and] at this ⊢
        exact this
      | true =>
        have e1 := m_inN (d := d) (a := y % 6) (lo := 1) (hi := c 0 0) (w := w) (by omega) (by decide) (by omega)
        rw [← m6, ← M.1] at e1
        rw [Bool.true_and]
        cases hb : decide (1 ≤ y % 6 ∧ y % 6 ≤ c 0 0) with
        | false =>
          rw [hb] at e1
          refine (p_X9_isRow_4FFT_L4 k0 (by decide) e1 rfl).trans ?_
          rw [d6]
          exact nx false
        | true =>
          rw [hb] at e1
          refine (p_X9_isRow_4FFF_L4 k0 (by decide) e1 (by decide)).trans ?_
          rw [d6]
          exact nx true
theorem m_isRow {y : Nat} (hc : okc c) (M : MS c w) (hy : y < 7776) : sem (d + 2) 173 [.ref 34, .int (nI y)] w = some (some (.int (b2i (vl c 5 y))), w) := by
  have := l_isRow (d := d) hc M 5 y true (.int (nI y)) (by rw [show 6 ^ 5 = 7776 by decide]; exact hy) hy
  rw [Bool.true_and] at this
  exact e_X9_isRow.trans (p_X9_isRow_0_L4.trans this)
end MISROW

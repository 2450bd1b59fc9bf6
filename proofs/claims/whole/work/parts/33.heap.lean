/-! a heap with a hole -/
def swp (h : Nat → Nat) (a b : Nat) : Nat → Nat := fun i => if i = a then h b else if i = b then h a else h i
theorem swp_a (h : Nat → Nat) (a b : Nat) : swp h a b a = h b := if_pos rfl
theorem swp_b (h : Nat → Nat) (a b : Nat) : swp h a b b = h a := by
  unfold swp
  by_cases e : b = a
  · rw [if_pos e, e]
  · rw [if_neg e, if_pos rfl]
theorem swp_o (h : Nat → Nat) {a b i : Nat} (h1 : i ≠ a) (h2 : i ≠ b) : swp h a b i = h i := by
  unfold swp
  rw [if_neg h1, if_neg h2]
/-- the rows of a heap are rows, each once -/
def okp (h : Nat → Nat) (N : Nat) : Prop := (∀ i, i < N → h i < 3906) ∧ ∀ i j, i < N → j < N → h i = h j → i = j
theorem okp.sw {h : Nat → Nat} {N a b : Nat} (hk : okp h N) (ha : a < N) (hb : b < N) : okp (swp h a b) N := by
  have key : ∀ i, i < N → ∃ j, j < N ∧ swp h a b i = h j ∧ (i = a → j = b) ∧ (i = b → j = a) ∧ (i ≠ a → i ≠ b → j = i) := by
    intro i hi
    by_cases h1 : i = a
    · exact ⟨b, hb, by rw [h1, swp_a], fun _ => rfl, fun h2 => by omega, fun h2 => absurd h1 h2⟩
    · by_cases h2 : i = b
      · exact ⟨a, ha, by rw [h2, swp_b], fun h3 => absurd h3 h1, fun _ => rfl, fun _ h3 => absurd h2 h3⟩
      · exact ⟨i, hi, swp_o h h1 h2, fun h3 => absurd h3 h1, fun h3 => absurd h3 h2, fun _ _ => rfl⟩
  refine ⟨fun i hi => ?_, fun i j hi hj he => ?_⟩
  · obtain ⟨k, k1, k2, _⟩ := key i hi
    rw [k2]
    exact hk.1 k k1
  · obtain ⟨k, k1, k2, k3, k4, k5⟩ := key i hi
    obtain ⟨l, l1, l2, l3, l4, l5⟩ := key j hj
    rw [k2, l2] at he
    have := hk.2 k l k1 l1 he
    by_cases i1 : i = a
    · by_cases j1 : j = a
      · omega
      · by_cases j2 : j = b
        · have := k3 i1; have := l4 j2; omega
        · have := k3 i1; have := l5 j1 j2; omega
    · by_cases i2 : i = b
      · by_cases j1 : j = a
        · have := k4 i2; have := l3 j1; omega
        · by_cases j2 : j = b
          · omega
          · have := k4 i2; have := l5 j1 j2; omega
      · have := k5 i1 i2
        by_cases j1 : j = a
        · have := l3 j1; omega
        · by_cases j2 : j = b
          · have := l4 j2; omega
          · have := l5 j1 j2; omega
/-- the same rows are in it -/
def sam (h h2 : Nat → Nat) (N : Nat) : Prop := ∀ x, (∃ i, i < N ∧ h i = x) ↔ ∃ i, i < N ∧ h2 i = x
theorem sam.refl (h : Nat → Nat) (N : Nat) : sam h h N := fun _ => Iff.rfl
theorem sam.trans {h h2 h3 : Nat → Nat} {N : Nat} (a : sam h h2 N) (b : sam h2 h3 N) : sam h h3 N := fun x => (a x).trans (b x)
theorem sam.sw (h : Nat → Nat) {N a b : Nat} (ha : a < N) (hb : b < N) : sam h (swp h a b) N := by
  intro x
  constructor
  · rintro ⟨i, hi, he⟩
    by_cases h1 : i = a
    · exact ⟨b, hb, by rw [swp_b, ← h1]; exact he⟩
    · by_cases h2 : i = b
      · exact ⟨a, ha, by rw [swp_a, ← h2]; exact he⟩
      · exact ⟨i, hi, by rw [swp_o h h1 h2]; exact he⟩
  · rintro ⟨i, hi, he⟩
    by_cases h1 : i = a
    · exact ⟨b, hb, by rw [h1, swp_a] at he; exact he⟩
    · by_cases h2 : i = b
      · exact ⟨a, ha, by rw [h2, swp_b] at he; exact he⟩
      · exact ⟨i, hi, by rw [swp_o h h1 h2] at he; exact he⟩
def hea (lab h : Nat → Nat) (N : Nat) : Prop := ∀ i, 0 < i → i < N → lab (h ((i - 1) / 2)) ≤ lab (h i)
def rsI (lab h : Nat → Nat) (N s : Nat) : Prop := s < N ∧ (∀ i, 0 < i → i < N → i ≠ s → lab (h ((i - 1) / 2)) ≤ lab (h i)) ∧ ∀ i, 0 < i → i < N → (i - 1) / 2 = s → 0 < s → lab (h ((s - 1) / 2)) ≤ lab (h i)
def skI (lab h : Nat → Nat) (N s : Nat) : Prop := s < N ∧ (∀ i, 0 < i → i < N → (i - 1) / 2 ≠ s → lab (h ((i - 1) / 2)) ≤ lab (h i)) ∧ ∀ i, 0 < i → i < N → (i - 1) / 2 = s → 0 < s → lab (h ((s - 1) / 2)) ≤ lab (h i)
theorem rsI.step {lab h : Nat → Nat} {N s : Nat} (H : rsI lab h N s) (hs : 0 < s) (hl : lab (h s) < lab (h ((s - 1) / 2))) : rsI lab (swp h s ((s - 1) / 2)) N ((s - 1) / 2) := by
  obtain ⟨h1, h2, h3⟩ := H
  generalize hp : (s - 1) / 2 = p at *
  have hps : p < s := by omega
  refine ⟨by omega, fun i i1 i2 i3 => ?_, fun i i1 i2 i3 i4 => ?_⟩
  · by_cases a1 : i = s
    · rw [a1, hp, swp_b, swp_a]; omega
    · rw [swp_o h a1 i3]
      by_cases a2 : (i - 1) / 2 = s
      · rw [a2, swp_a]
        exact h3 i i1 i2 a2 hs
      · by_cases a3 : (i - 1) / 2 = p
        · rw [a3, swp_b]
          have := h2 i i1 i2 a1
          rw [a3] at this
          omega
        · rw [swp_o h a2 a3]
          exact h2 i i1 i2 a1
  · have e1 : swp h s p ((p - 1) / 2) = h ((p - 1) / 2) := swp_o h (by omega) (by omega)
    have e2 := h2 p i4 (by omega) (by omega)
    rw [e1]
    by_cases a1 : i = s
    · rw [a1, swp_a]; exact e2
    · rw [swp_o h a1 (by omega)]
      have := h2 i i1 i2 a1
      rw [i3] at this
      omega
theorem rsI.done {lab h : Nat → Nat} {N s : Nat} (H : rsI lab h N s) (hs : 0 < s → lab (h ((s - 1) / 2)) ≤ lab (h s)) : hea lab h N := by
  intro i i1 i2
  by_cases a1 : i = s
  · subst a1; exact hs i1
  · exact H.2.1 i i1 i2 a1
theorem skI.step {lab h : Nat → Nat} {N s l : Nat} (H : skI lab h N s) (hl0 : 0 < l) (hlN : l < N) (hls : (l - 1) / 2 = s) (hl : lab (h l) ≤ lab (h s)) (hm : ∀ i, 0 < i → i < N → (i - 1) / 2 = s → lab (h l) ≤ lab (h i)) : skI lab (swp h s l) N l := by
  obtain ⟨h1, h2, h3⟩ := H
  have hsl : s < l := by omega
  refine ⟨hlN, fun i i1 i2 i3 => ?_, fun i i1 i2 i3 i4 => ?_⟩
  · by_cases a1 : i = s
    · have e1 : swp h s l ((i - 1) / 2) = h ((i - 1) / 2) := swp_o h (by omega) i3
      rw [e1, a1, swp_a]
      exact h3 l hl0 hlN hls (by omega)
    · by_cases a2 : i = l
      · rw [a2, hls, swp_a, swp_b]; exact hl
      · rw [swp_o h a1 a2]
        by_cases a3 : (i - 1) / 2 = s
        · rw [a3, swp_a]; exact hm i i1 i2 a3
        · rw [swp_o h a3 i3]; exact h2 i i1 i2 a3
  · rw [hls, swp_a, swp_o h (by omega) (by omega)]
    have := h2 i i1 i2 (by omega)
    rw [i3] at this
    exact this
theorem skI.done {lab h : Nat → Nat} {N s : Nat} (H : skI lab h N s) (hm : ∀ i, 0 < i → i < N → (i - 1) / 2 = s → lab (h s) ≤ lab (h i)) : hea lab h N := by
  intro i i1 i2
  by_cases a1 : (i - 1) / 2 = s
  · rw [a1]; exact hm i i1 i2 a1
  · exact H.2.1 i i1 i2 a1
/-- the first is the least -/
theorem hea.top {lab h : Nat → Nat} {N : Nat} (H : hea lab h N) : ∀ (n i : Nat), i ≤ n → i < N → lab (h 0) ≤ lab (h i) := by
  intro n
  induction n with
  | zero => intro i h1 _; rw [Nat.le_zero.mp h1]; exact Nat.le_refl _
  | succ n ih =>
    intro i h1 h2
    by_cases h0 : i = 0
    · rw [h0]; exact Nat.le_refl _
    · exact Nat.le_trans (ih ((i - 1) / 2) (by omega) (by omega)) (H i (by omega) h2)
/-- a label that falls, or a new last row: a hole to rise from -/
theorem hea.fall {lab lab2 h : Nat → Nat} {N s : Nat} (H : hea lab h N) (hs : s < N) (hle : lab2 (h s) ≤ lab (h s)) (hne : ∀ i, i < N → i ≠ s → lab2 (h i) = lab (h i)) : rsI lab2 h N s := by
  refine ⟨hs, fun i i1 i2 i3 => ?_, fun i i1 i2 i3 i4 => ?_⟩
  · have e := H i i1 i2
    rw [hne i i2 i3]
    by_cases a : (i - 1) / 2 = s
    · rw [a] at e ⊢; omega
    · rw [hne _ (by omega) a]; exact e
  · have e1 := H i i1 i2
    have e2 := H s i4 hs
    rw [i3] at e1
    rw [hne i i2 (by omega), hne _ (by omega) (by omega)]
    omega
theorem hea.new {lab h : Nat → Nat} {N : Nat} (H : ∀ i, 0 < i → i < N → lab (h ((i - 1) / 2)) ≤ lab (h i)) : rsI lab h (N + 1) N := by
  refine ⟨by omega, fun i i1 i2 i3 => H i i1 (by omega), fun i i1 i2 i3 i4 => by omega⟩
/-- the last row put first: a hole to sink from -/
theorem hea.last {lab h : Nat → Nat} {N : Nat} (H : hea lab h (N + 1)) (hN : 0 < N) : skI lab (fun i => if i = 0 then h N else h i) N 0 := by
  refine ⟨hN, fun i i1 i2 i3 => ?_, fun i i1 i2 i3 i4 => absurd i4 (by omega)⟩
  dsimp only
  rw [if_neg i3, if_neg (by omega)]
  exact H i i1 (by omega)

/-! the class side: what a School tells; c: the school as numbers (c 0: how many, costs; c 1 .. c 4 of spells; c 5 of pupils) -/
def XS (p : Nat) (c : Nat → Nat → Nat) (w : Wd) : Prop :=
  w.1 p 6 = nI (c 0 0) ∧ w.1 p 7 = nI (c 0 1) ∧ w.1 p 8 = nI (c 0 2) ∧ w.1 p 9 = nI (c 0 3) ∧ w.1 p 10 = nI (c 0 4) ∧ w.1 p 11 = nI (c 0 5) ∧
  (∀ s : Nat, s < c 0 0 → w.1 (p + 1) s = nI (c 1 s) ∧ w.1 (p + 2) s = nI (c 2 s) ∧ w.1 (p + 3) s = nI (c 3 s) ∧ w.1 (p + 4) s = nI (c 4 s)) ∧
  ∀ q : Nat, q < c 0 2 → w.1 (p + 6) q = nI (c 5 q)
def okc (c : Nat → Nat → Nat) : Prop :=
  c 0 0 ≤ 5 ∧ c 0 1 ≤ 4 ∧ c 0 2 ≤ 3 ∧ c 0 3 ≤ 9 ∧ c 0 4 ≤ 9 ∧ (1 ≤ c 0 5 ∧ c 0 5 ≤ 5) ∧ (∀ s : Nat, s < c 0 0 → c 1 s ≤ 9 ∧ c 2 s ≤ 1 ∧ c 3 s ≤ 9 ∧ c 4 s ≤ 9) ∧ ∀ q : Nat, q < c 0 2 → c 5 q < 2 ^ c 0 0
theorem scp.c {p : Nat} (h : scp p) : clsOf (p + 1) = 50 ∧ clsOf (p + 2) = 50 ∧ clsOf (p + 3) = 50 ∧ clsOf (p + 4) = 50 ∧ clsOf (p + 5) = 50 ∧ clsOf (p + 6) = 50 := by
  rcases h with rfl | rfl <;> decide
theorem scp.l {p : Nat} (h : scp p) : lenOf (p + 1) = 5 ∧ lenOf (p + 2) = 5 ∧ lenOf (p + 3) = 5 ∧ lenOf (p + 4) = 5 ∧ lenOf (p + 5) = 4 ∧ lenOf (p + 6) = 3 := by
  rcases h with rfl | rfl <;> decide
theorem s_isSpell {d p n : Nat} {s : Int32} {w : Wd} (hp : scp p) (hn : w.1 p 6 = nI n) (h5 : n ≤ 5) : sem (d + 1) 59 [.ref p, .int s] w = some (some (.int (if ¬ s < 0 ∧ s < nI n then 1 else 0)), w) := by
  by_cases h1 : s < 0
  · rw [if_neg (fun h => h.1 h1)]
    exact e_X5_isSpell.trans (p_X5_isSpell_0T_R hp h1)
  · by_cases h2 : nI n ≤ s
    · rw [if_neg (fun h => i_le_nlt h2 h.2)]
      exact e_X5_isSpell.trans (p_X5_isSpell_0FT_R hp h1 (by rw [hn]; exact h2))
    · rw [if_pos ⟨h1, i_nle h2⟩]
      exact e_X5_isSpell.trans (p_X5_isSpell_0FF_R hp h1 (by rw [hn]; exact h2))
theorem s_isThing {d p n : Nat} {s : Int32} {w : Wd} (hp : scp p) (hn : w.1 p 7 = nI n) (h5 : n ≤ 5) : sem (d + 1) 60 [.ref p, .int s] w = some (some (.int (if ¬ s < 0 ∧ s < nI n then 1 else 0)), w) := by
  by_cases h1 : s < 0
  · rw [if_neg (fun h => h.1 h1)]
    exact e_X5_isThing.trans (p_X5_isThing_0T_R hp h1)
  · by_cases h2 : nI n ≤ s
    · rw [if_neg (fun h => i_le_nlt h2 h.2)]
      exact e_X5_isThing.trans (p_X5_isThing_0FT_R hp h1 (by rw [hn]; exact h2))
    · rw [if_pos ⟨h1, i_nle h2⟩]
      exact e_X5_isThing.trans (p_X5_isThing_0FF_R hp h1 (by rw [hn]; exact h2))
theorem s_isPupil {d p n : Nat} {s : Int32} {w : Wd} (hp : scp p) (hn : w.1 p 8 = nI n) (h5 : n ≤ 5) : sem (d + 1) 61 [.ref p, .int s] w = some (some (.int (if ¬ s < 0 ∧ s < nI n then 1 else 0)), w) := by
  by_cases h1 : s < 0
  · rw [if_neg (fun h => h.1 h1)]
    exact e_X5_isPupil.trans (p_X5_isPupil_0T_R hp h1)
  · by_cases h2 : nI n ≤ s
    · rw [if_neg (fun h => i_le_nlt h2 h.2)]
      exact e_X5_isPupil.trans (p_X5_isPupil_0FT_R hp h1 (by rw [hn]; exact h2))
    · rw [if_pos ⟨h1, i_nle h2⟩]
      exact e_X5_isPupil.trans (p_X5_isPupil_0FF_R hp h1 (by rw [hn]; exact h2))
section XSCH
variable {d p : Nat} {c : Nat → Nat → Nat} {w : Wd}
theorem s_effectOf {s : Nat} (hp : scp p) (X : XS p c w) (hc : okc c) (hs : s < c 0 0) : sem (d + 2) 63 [.ref p, .int (nI s)] w = some (some (.int (nI (c 1 s))), w) := by
  have h5 := hc.1
  have e := s_at (d := d) (a := p + 1) (k := s) (w := w) hp.c.1 (by rw [hp.l.1]; omega)
  rw [(X.2.2.2.2.2.2.1 s hs).1] at e
  exact e_X5_effectOf.trans (p_X5_effectOf_0_R hp e)
theorem s_layCost {s : Nat} (hp : scp p) (X : XS p c w) (hc : okc c) (hs : s < c 0 0) : sem (d + 2) 65 [.ref p, .int (nI s)] w = some (some (.int (nI (c 3 s))), w) := by
  have h5 := hc.1
  have e := s_at (d := d) (a := p + 3) (k := s) (w := w) hp.c.2.2.1 (by rw [hp.l.2.2.1]; omega)
  rw [(X.2.2.2.2.2.2.1 s hs).2.2.1] at e
  exact e_X5_layCost.trans (p_X5_layCost_0_R hp e)
theorem s_liftCost {s : Nat} (hp : scp p) (X : XS p c w) (hc : okc c) (hs : s < c 0 0) : sem (d + 2) 66 [.ref p, .int (nI s)] w = some (some (.int (nI (c 4 s))), w) := by
  have h5 := hc.1
  have e := s_at (d := d) (a := p + 4) (k := s) (w := w) hp.c.2.2.2.1 (by rw [hp.l.2.2.2.1]; omega)
  rw [(X.2.2.2.2.2.2.1 s hs).2.2.2] at e
  exact e_X5_liftCost.trans (p_X5_liftCost_0_R hp e)
theorem s_isGlass {s : Nat} (hp : scp p) (X : XS p c w) (hc : okc c) (hs : s < c 0 0) : sem (d + 2) 64 [.ref p, .int (nI s)] w = some (some (.int (nI (c 2 s))), w) := by
  have h5 := hc.1
  have h1 := (hc.2.2.2.2.2.2.1 s hs).2.1
  have e := s_at (d := d) (a := p + 2) (k := s) (w := w) hp.c.2.1 (by rw [hp.l.2.1]; omega)
  rw [(X.2.2.2.2.2.2.1 s hs).2.1] at e
  rcases (by omega : c 2 s = 0 ∨ c 2 s = 1) with h | h
  · rw [h] at e ⊢
    exact e_X5_isGlass.trans (p_X5_isGlass_0T_R hp e (by decide))
  · rw [h] at e ⊢
    exact e_X5_isGlass.trans (p_X5_isGlass_0F_R hp e (by decide))
theorem s_spellsOfPupil {q : Nat} (hp : scp p) (X : XS p c w) (hc : okc c) (hq : q < c 0 2) : sem (d + 2) 68 [.ref p, .int (nI q)] w = some (some (.int (nI (c 5 q))), w) := by
  have h3 := hc.2.2.1
  have e := s_at (d := d) (a := p + 6) (k := q) (w := w) hp.c.2.2.2.2.2 (by rw [hp.l.2.2.2.2.2]; omega)
  rw [X.2.2.2.2.2.2.2 q hq] at e
  exact e_X5_spellsOfPupil.trans (p_X5_spellsOfPupil_0_R hp e)
theorem s_isHumming {r : List Nat} (hp : scp p) (X : XS p c w) (hc : okc c) (h : okr 5 r) : sem (d + 3) 73 [.ref p, .int (nI (cx r))] w = some (some (.int (if c 0 5 ≤ r.length then 1 else 0)), w) := by
  have hh := hc.2.2.2.2.2.1
  have hl := h.1
  by_cases hx : c 0 5 ≤ r.length
  · rw [if_pos hx]
    exact e_X5_isHumming.trans (p_X5_isHumming_0F_R hp (s_depth h) (by rw [X.2.2.2.2.2.1]; exact nI_nlt hx (by omega)))
  · rw [if_neg hx]
    exact e_X5_isHumming.trans (p_X5_isHumming_0T_R hp (s_depth h) (by rw [X.2.2.2.2.2.1]; exact nI_lt (by omega) (by omega)))
end XSCH
/-! who may say what; the row behind a word -/
def may1 (c : Nat → Nat → Nat) (set wanted : Nat) (q : Nat) : Bool := set.testBit q && (c 5 q &&& wanted == wanted)
/-- one of the first n pupils of the set may say all these spells -/
def mayN (c : Nat → Nat → Nat) (set wanted : Nat) : Nat → Bool
  | 0 => false
  | n + 1 => mayN c set wanted n || may1 c set wanted n
def mayOne (c : Nat → Nat → Nat) (set wanted : Nat) : Bool := mayN c set wanted (c 0 2)
theorem mayN_iff {c : Nat → Nat → Nat} {set wanted : Nat} : ∀ {n : Nat}, mayN c set wanted n = true ↔ ∃ q, q < n ∧ may1 c set wanted q = true := by
  intro n
  induction n with
  | zero => simp [mayN]
  | succ n ih =>
    unfold mayN
    rw [Bool.or_eq_true, ih]
    constructor
    · rintro (⟨q, h1, h2⟩ | h)
      · exact ⟨q, by omega, h2⟩
      · exact ⟨n, by omega, h⟩
    · rintro ⟨q, h1, h2⟩
      by_cases hq : q = n
      · subst hq; exact Or.inr h2
      · exact Or.inl ⟨q, by omega, h2⟩
def b2i (b : Bool) : Int32 := if b = true then 1 else 0
theorem b2i_t {b : Bool} (h : b = true) : b2i b = 1 := if_pos h
theorem b2i_f {b : Bool} (h : b = false) : b2i b = 0 := if_neg (by rw [h]; decide)
theorem b2i_01 (b : Bool) : b2i b = 0 ∨ b2i b = 1 := by cases b <;> simp [b2i]
theorem b2i_ne {b : Bool} : ¬ b2i b = 0 ↔ b = true := by cases b <;> simp [b2i]
theorem b2i_eq {b : Bool} : b2i b = 0 ↔ b = false := by cases b <;> simp [b2i]
section XSAY
variable {d p : Nat} {c : Nat → Nat → Nat} {w : Wd}
theorem l_mayOne {set wanted : Nat} (hp : scp p) (X : XS p c w) (hc : okc c) (hs : set < 2 ^ 31) (hw : wanted < 2 ^ 31) : ∀ (m k : Nat), m + k = c 0 2 → mayN c set wanted k = false → runs (T_X5_mayOneSay (sem (d + 1))) (2, [.ref p, .int (nI set), .int (nI wanted), .int (nI k)], [], w) = some (some (.int (b2i (mayOne c set wanted))), w) := by
  have h3 := hc.2.2.1
  intro m
  induction m with
  | zero =>
    intro k hk hf
    have e : mayOne c set wanted = false := by unfold mayOne; rw [show c 0 2 = k by omega]; exact hf
    rw [b2i_f e]
    exact p_X5_mayOneSay_2T_R hp (by rw [X.2.2.1]; exact nI_le (by omega) (by omega))
  | succ m ih =>
    intro k hk hf
    have hlt : ¬ (w.1 p 8) ≤ nI k := by rw [X.2.2.1]; exact nI_ge (by omega) (by omega)
    have hq := hc.2.2.2.2.2.2.2 k (by omega)
    have hpow : 2 ^ c 0 0 ≤ 2 ^ 5 := Nat.pow_le_pow_right (by decide) hc.1
    by_cases hb : set.testBit k = true
    · have e := s_at (d := d) (a := p + 6) (k := k) (w := w) hp.c.2.2.2.2.2 (by rw [hp.l.2.2.2.2.2]; omega)
      rw [X.2.2.2.2.2.2.2 k (by omega)] at e
      by_cases hwd : c 5 k &&& wanted = wanted
      · have e2 : mayOne c set wanted = true := mayN_iff.mpr ⟨k, by omega, by unfold may1; rw [hb, hwd]; simp⟩
        rw [b2i_t e2]
        exact p_X5_mayOneSay_2FFF_R hp hlt ((i_bit1 hs (by omega)).mpr hb) e (by rw [i_and, hwd])
      · refine (p_X5_mayOneSay_2FFT_L2 hp hlt ((i_bit1 hs (by omega)).mpr hb) e (by
          rw [i_and]
          intro h
          rw [nI_eq (Nat.lt_of_le_of_lt Nat.and_le_left (by omega)) hw] at h
          exact hwd h)).trans ?_
        rw [nI_1]
        exact ih (k + 1) (by omega) (by unfold mayN may1; rw [hf, hb]; simp [hwd])
    · refine (p_X5_mayOneSay_2FT_L2 hp hlt (fun h => hb ((i_bit1 hs (by omega)).mp h))).trans ?_
      rw [nI_1]
      exact ih (k + 1) (by omega) (by unfold mayN may1; rw [hf]; simp [hb])
theorem s_mayOne {set wanted : Nat} (hp : scp p) (X : XS p c w) (hc : okc c) (hs : set < 2 ^ 31) (hw : wanted < 2 ^ 31) : sem (d + 2) 72 [.ref p, .int (nI set), .int (nI wanted)] w = some (some (.int (b2i (mayOne c set wanted))), w) :=
  e_X5_mayOneSay.trans ((p_X5_mayOneSay_0_L2 hp).trans (l_mayOne hp X hc hs hw (c 0 2) 0 (by omega) rfl))
theorem s_maySay {set s : Nat} (hp : scp p) (X : XS p c w) (hc : okc c) (hs : set < 2 ^ 31) (h5 : s < 31) : sem (d + 3) 71 [.ref p, .int (nI set), .int (nI s)] w = some (some (.int (b2i (mayOne c set (2 ^ s)))), w) := by
  have h2 : 2 ^ s < 2 ^ 31 := Nat.pow_lt_pow_right (by decide) h5
  refine e_X5_maySay.trans (p_X5_maySay_0_R hp ?_ (b2i_01 _))
  rw [i_pow h5]
  exact s_mayOne hp X hc hs h2
end XSAY

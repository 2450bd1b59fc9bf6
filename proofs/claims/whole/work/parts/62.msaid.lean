/-! the reference side: what a row becomes by a word; its cost -/
def mo : Option (List Nat) → Int32
  | some q => nI (cm q)
  | none => -9
theorem cm_low : ∀ r : List Nat, 6 ^ r.length ≤ 5 * cm r + 1 := by
  intro r
  induction r with
  | nil => decide
  | cons s r ih =>
    rw [cm_cons, List.length_cons, Nat.pow_succ]
    omega
theorem cm_full {r : List Nat} (h : okr 5 r) : 1296 ≤ cm r ↔ r.length = 5 := by
  have h1 := cm_low r
  have h2 := cm_len h.2
  have h3 := h.1
  constructor
  · intro h4
    rcases Nat.lt_or_ge r.length 5 with h5 | h5
    · have := Nat.pow_le_pow_right (n := 6) (by decide) (Nat.le_of_lt_succ h5)
      rw [show 6 ^ 4 = 1296 by decide] at this
      omega
    · omega
  · intro h4
    rw [h4, show 6 ^ 5 = 7776 by decide] at h1
    omega
section MSAID
variable {d : Nat} {c : Nat → Nat → Nat} {w : Wd}
theorem m_swapped {a b : Nat} {t : List Nat} (h : okr 5 (a :: b :: t)) : sem (d + 1) 165 [.int (nI (cm (a :: b :: t)))] w = some (some (.int (nI (cm (b :: a :: t)))), w) := by
  have hb := cm_lt h
  have ha := h.hd
  have hb2 := h.tl.hd
  refine e_X9_swapped.trans (p_X9_swapped_0_R.trans ?_)
  rw [cm_cons, cm_cons] at hb
  have e1 : nI (cm (a :: b :: t)) - nI (cm (a :: b :: t)) / 6 * 6 = nI (a + 1) := by
    rw [cm_cons, cm_cons]
    exact i_mod6 (by omega) ha
  have e2 : nI (cm (a :: b :: t)) / 6 = nI (cm (b :: t)) := cm_tail h
  have e3 : nI (cm (b :: t)) - nI (cm (b :: t)) / 6 * 6 = nI (b + 1) := by
    rw [cm_cons]
    exact i_mod6 (by omega) hb2
  have e4 : nI (cm (a :: b :: t)) / 36 = nI (cm t) := by
    have k := pk_div (a := cm (a :: b :: t)) (d := 36) (by rw [cm_cons, cm_cons]; omega) (by decide) (by decide)
    rw [show cm (a :: b :: t) / 36 = cm t by rw [cm_cons, cm_cons]; omega] at k
    exact k
  rw [e1, e2, e3, e4]
  have k1 : nI (cm t) * 36 = nI (cm t * 36) := pk_mul _ 36
  have k2 : nI (a + 1) * 6 = nI ((a + 1) * 6) := pk_mul _ 6
  rw [k1, k2, nI_add, nI_add, show cm t * 36 + (a + 1) * 6 + (b + 1) = cm (b :: a :: t) by rw [cm_cons, cm_cons]; omega]
theorem b2i_e0 {b : Bool} (h : b = false) : b2i b = 0 := b2i_f h
theorem m_said {r : List Nat} {set x : Nat} (M : MS c w) (hc : okc c) (C : MCa c w) (hr : okr (c 0 0) r) (hs : set < 2 ^ 31) (hx : x ≤ 6) :
    ∃ w2, sem (d + 3) 171 [.ref 34, .int (nI (cm r)), .int (nI x), .int (nI set)] w = some (some (.int (mo (af c set r x))), w2) ∧ cch w w2 ∧ MCa c w2 := by
  have hr5 := hr.five hc
  have hb := cm_lt hr5
  have h5 := hc.1
  have e1 := m_spellAt (d := d + 1) (n := 0) (w := w) hr5 (by decide)
  rw [List.drop_zero] at e1
  rcases Nat.lt_or_ge x 5 with hx5 | hx5
  · have k1 : ¬ (5 : Int32) ≤ nI x := nI_ge (a := x) (b := 5) hx5 (by decide)
    by_cases hsp : x < c 0 0
    · have k2 : ¬ (w.1 34 13) ≤ nI x := by rw [M.1]; exact nI_ge hsp (by omega)
      by_cases hf : r.length = 5
      · have k3 : (1296 : Int32) ≤ nI (cm r) := nI_le (a := 1296) ((cm_full hr5).mpr hf) (by omega)
        have e : af c set r x = none := by unfold af; rw [if_pos hx5, if_neg (by omega)]
        rw [e]
        exact ⟨w, e_X9_said.trans (p_X9_said_0FFT_R e1 k1 k2 k3), cch.refl w, C⟩
      · have hl := hr.1
        have k3 : ¬ (1296 : Int32) ≤ nI (cm r) := nI_ge (a := cm r) (b := 1296) (by
          rcases Nat.lt_or_ge (cm r) 1296 with h | h
          · exact h
          · exact absurd ((cm_full hr5).mp h) hf) (by decide)
        obtain ⟨w2, g1, g2, g3⟩ := m_canSay (d := d) (e := x) (f := x) M hc C hs hx5 hx5
        rw [Nat.or_self] at g1
        cases hm : mayOne c set (2 ^ x) with
        | false =>
          rw [hm] at g1
          have e : af c set r x = none := by unfold af; rw [if_pos hx5, if_neg (fun h => by rw [hm] at h; exact absurd h.2.2 (by decide))]
          rw [e]
          exact ⟨w2, e_X9_said.trans (p_X9_said_0FFFT_R e1 k1 k2 k3 g1 rfl), g2, g3⟩
        | true =>
          rw [hm] at g1
          rw [af_lay' hx5 hsp (by omega) hm]
          refine ⟨w2, e_X9_said.trans ((p_X9_said_0FFFF_R e1 k1 k2 k3 g1 (by decide)).trans ?_), g2, g3⟩
          have k4 : nI (cm r) * 6 = nI (cm r * 6) := pk_mul _ 6
          rw [Int32.mul_comm, k4, nI_add, nI_1, Nat.mul_comm]
          rfl
    · have k2 : (w.1 34 13) ≤ nI x := by rw [M.1]; exact nI_le (by omega) (by omega)
      have e : af c set r x = none := by unfold af; rw [if_pos hx5, if_neg (fun h => hsp h.1)]
      rw [e]
      exact ⟨w, e_X9_said.trans (p_X9_said_0FT_R e1 k1 k2), cch.refl w, C⟩
  · have k1 : (5 : Int32) ≤ nI x := nI_le (a := 5) hx5 (by omega)
    cases r with
    | nil =>
      have e : af c set [] x = none := by
        unfold af
        rcases (by omega : x = 5 ∨ x = 6) with rfl | rfl <;> rfl
      rw [e]
      exact ⟨w, e_X9_said.trans (p_X9_said_0TF_R e1 k1 rfl), cch.refl w, C⟩
    | cons a r =>
      have ha := hr.hd
      have k2 : ¬ spI (a :: r) = -9 := fun h => by
        have h1 : nI a = -9 := h
        have := nI_pos (n := a) (by omega)
        rw [h1] at this
        exact this (by decide)
      rcases (by omega : x = 5 ∨ x = 6) with rfl | rfl
      · obtain ⟨w2, g1, g2, g3⟩ := m_canSay (d := d) (e := a) (f := a) M hc C hs (by omega) (by omega)
        rw [Nat.or_self] at g1
        cases hm : mayOne c set (2 ^ a) with
        | false =>
          rw [hm] at g1
          have e : af c set (a :: r) 5 = none := by unfold af; rw [if_neg (by decide), if_pos rfl]; dsimp only; rw [hm]; rfl
          rw [e]
          exact ⟨w2, e_X9_said.trans (p_X9_said_0TTFT_R e1 k1 k2 rfl g1 rfl), g2, g3⟩
        | true =>
          rw [hm] at g1
          rw [af_lift' hm]
          refine ⟨w2, e_X9_said.trans ((p_X9_said_0TTFF_R e1 k1 k2 rfl g1 (by decide)).trans ?_), g2, g3⟩
          rw [cm_tail hr5]
          rfl
      · have e2 := m_spellAt (d := d + 1) (n := 1) (w := w) hr5 (by decide)
        cases r with
        | nil =>
          exact ⟨w, e_X9_said.trans (p_X9_said_0TTTT_R e1 k1 k2 (by decide) e2 rfl), cch.refl w, C⟩
        | cons b r =>
          have hb2 := hr.tl.hd
          have k3 : ¬ spI (List.drop 1 (a :: b :: r)) = -9 := fun h => by
            have h1 : nI b = -9 := h
            have := nI_pos (n := b) (by omega)
            rw [h1] at this
            exact this (by decide)
          obtain ⟨w2, g1, g2, g3⟩ := m_canSay (d := d) (e := a) (f := b) M hc C hs (by omega) (by omega)
          cases hm : mayOne c set (2 ^ a ||| 2 ^ b) with
          | false =>
            rw [hm] at g1
            have e : af c set (a :: b :: r) 6 = none := by unfold af; rw [if_neg (by decide), if_neg (by decide), if_pos rfl]; dsimp only; rw [hm]; rfl
            rw [e]
            exact ⟨w2, e_X9_said.trans (p_X9_said_0TTTFT_R e1 k1 k2 (by decide) e2 k3 g1 rfl), g2, g3⟩
          | true =>
            rw [hm] at g1
            rw [af_swap' hm]
            exact ⟨w2, e_X9_said.trans (p_X9_said_0TTTFF_R e1 k1 k2 (by decide) e2 k3 g1 (by decide) (m_swapped hr5)), g2, g3⟩
theorem m_costOf {r q : List Nat} {set x : Nat} (M : MS c w) (hc : okc c) (hr : okr (c 0 0) r) (hx : x ≤ 6) (ha : af c set r x = some q) : sem (d + 2) 172 [.ref 34, .int (nI (cm r)), .int (nI x)] w = some (some (.int (nI (1000 * cst c r x + 1))), w) := by
  have h5 := hc.1
  have fin : ∀ n : Nat, (1000 : Int32) * nI n + 1 = nI (1000 * n + 1) := fun n => by
    have k1 : nI n * 1000 = nI (n * 1000) := pk_mul n 1000
    rw [Int32.mul_comm, k1, nI_1, Nat.mul_comm]
  have i4 : ∀ s j : Nat, 4 * nI s + nI j = nI (4 * s + j) := fun s j => by
    have k1 : nI s * 4 = nI (s * 4) := pk_mul s 4
    rw [Int32.mul_comm, k1, nI_add, Nat.mul_comm]
  rcases Nat.lt_or_ge x 5 with hx5 | hx5
  · obtain ⟨⟨h1, _, _⟩, _⟩ := af_lay hx5 ha
    have k1 : ¬ (5 : Int32) ≤ nI x := nI_ge (a := x) (b := 5) hx5 (by decide)
    have k2 : 4 * nI x + 2 = nI (4 * x + 2) := i4 x 2
    refine e_X9_costOf.trans ((p_X9_costOf_0F_R k1 (by rw [k2]; exact vp_in_nI (by omega) (by decide))).trans ?_)
    rw [k2, nI_clamp (by omega), (M.2.2.2.2.2.2.1 x h1).2.2.1, fin]
    unfold cst
    rw [if_pos hx5]
  · have k1 : (5 : Int32) ≤ nI x := nI_le (a := 5) hx5 (by omega)
    rcases (by omega : x = 5 ∨ x = 6) with rfl | rfl
    · obtain ⟨s, rfl, _⟩ := af_lift ha
      have hs := hr.hd
      have e1 := m_spellAt (d := d) (n := 0) (w := w) (hr.five hc) (by decide)
      have k2 : 4 * spI (List.drop 0 (s :: q)) + 3 = nI (4 * s + 3) := i4 s 3
      refine e_X9_costOf.trans ((p_X9_costOf_0TF_R k1 rfl e1 (by rw [k2]; exact vp_in_nI (by omega) (by decide))).trans ?_)
      rw [k2, nI_clamp (by omega), (M.2.2.2.2.2.2.1 s hs).2.2.2, fin]
      rfl
    · refine e_X9_costOf.trans ((p_X9_costOf_0TT_R k1 (by decide)).trans ?_)
      rw [M.2.2.2.1, fin]
      rfl
end MSAID

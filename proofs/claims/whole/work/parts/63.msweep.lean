/-! the reference side: ways swept until no word betters them -/
def MV (c : Nat → Nat → Nat) (w : Wd) : Prop := ∀ y, y < 7776 → (w.1 47 y = 0 ∧ ∀ r, okr (c 0 0) r → cm r ≠ y) ∨ (¬ w.1 47 y = 0 ∧ ∃ r, okr (c 0 0) r ∧ cm r = y)
def MW (W : Nat → Nat) (w : Wd) : Prop := ∀ y, y < 7776 → W y ≤ 1000000 ∧ w.1 46 y = nI (W y)
theorem MV.cch {c : Nat → Nat → Nat} {w w2 : Wd} (M : MV c w) (h : cch w w2) : MV c w2 := by
  unfold MV at *
  rw [h.1 47 (by decide) (by decide)]
  exact M
theorem MW.cch {W : Nat → Nat} {w w2 : Wd} (M : MW W w) (h : cch w w2) : MW W w2 := by
  unfold MW at *
  rw [h.1 46 (by decide) (by decide)]
  exact M
/-- what a way from a row may be -/
def wfp (c : Nat → Nat → Nat) (set : Nat) (W : Nat → Nat) (r : List Nat) (k v : Nat) : Prop :=
  v ≤ W (cm r) ∧ (v = W (cm r) ∨ ∃ x q, x < 7 ∧ af c set r x = some q ∧ W (cm q) < 1000000 ∧ v = W (cm q) + (1000 * cst c r x + 1)) ∧
  ∀ x q, x < k → af c set r x = some q → W (cm q) < 1000000 → v ≤ W (cm q) + (1000 * cst c r x + 1)
section MSWEEP
variable {d : Nat} {c : Nat → Nat → Nat} {set : Nat}
theorem l_wayFrom {W : Nat → Nat} {r : List Nat} (hc : okc c) (hr : okr (c 0 0) r) (hs : set < 2 ^ 31) : ∀ (m k b : Nat) (v5 : Value) (w : Wd), m + k = 7 → MS c w → MCa c w → MW W w → b ≤ 1000000 → wfp c set W r k b →
    ∃ v w2, runs (T_X9_wayFrom (sem (d + 3))) (10, [.ref 34, .int (nI (cm r)), .int (nI set), .int (nI b), .int (nI k), v5], [], w) = some (some (.int (nI v)), w2) ∧ cch w w2 ∧ MCa c w2 ∧ v ≤ 1000000 ∧ wfp c set W r 7 v := by
  intro m
  induction m with
  | zero =>
    intro k b v5 w hk M C H hb P
    have ek : k = 7 := by omega
    subst ek
    exact ⟨b, w, p_X9_wayFrom_10T_R (by decide), cch.refl w, C, hb, P⟩
  | succ m ih =>
    intro k b v5 w hk M C H hb P
    have h1 : ¬ (6 : Int32) < nI k := nI_nlt (a := 6) (b := k) (by omega) (by decide)
    obtain ⟨w2, g1, g2, g3⟩ := m_said (d := d) (x := k) M hc C hr hs (by omega)
    have M2 := M.cch g2
    have H2 := H.cch g2
    obtain ⟨P1, P2, P3⟩ := P
    cases ha : af c set r k with
    | none =>
      rw [ha] at g1
      obtain ⟨v, w3, f1, f2, f3⟩ := ih (k + 1) b .null w2 (by omega) M2 g3 H2 hb ⟨P1, P2, fun x q hx hq hf => by
        by_cases e : x = k
        · subst e; rw [ha] at hq; exact absurd hq (by simp)
        · exact P3 x q (by omega) hq hf⟩
      refine ⟨v, w3, (p_X9_wayFrom_10FT_L10 h1 g1 rfl).trans ?_, g2.trans f2, f3⟩
      rw [nI_1]
      exact f1
    | some q =>
      rw [ha] at g1
      have hq5 := (af_ok hr (by omega) ha).five hc
      have hcq := cm_lt hq5
      obtain ⟨y1, y2⟩ := H2 (cm q) hcq
      have e3 : ¬ mo (some q) = -9 := fun h => by
        have h1 : nI (cm q) = -9 := h
        have := nI_pos (n := cm q) (by omega)
        rw [h1] at this
        exact this (by decide)
      have hv : vp_in (mo (some q)) 7776 := vp_in_nI hcq (by decide)
      have e4 : w2.1 46 (mo (some q)).toNatClampNeg = nI (W (cm q)) := by
        show w2.1 46 (nI (cm q)).toNatClampNeg = _
        rw [nI_clamp (by omega), y2]
      have k9 := cst_le hc hr (by omega) ha
      by_cases hf : W (cm q) < 1000000
      · have e5 : ¬ (1000000 : Int32) ≤ w2.1 46 (mo (some q)).toNatClampNeg := by rw [e4]; exact nI_ge (a := W (cm q)) (b := 1000000) hf (by decide)
        have e6 := m_costOf (d := d + 1) M2 hc hr (by omega) ha
        have e7 : w2.1 46 (mo (some q)).toNatClampNeg + nI (1000 * cst c r k + 1) = nI (W (cm q) + (1000 * cst c r k + 1)) := by rw [e4, nI_add]
        by_cases hl : W (cm q) + (1000 * cst c r k + 1) < b
        · obtain ⟨v, w3, f1, f2, f3⟩ := ih (k + 1) (W (cm q) + (1000 * cst c r k + 1)) .null w2 (by omega) M2 g3 H2 (by omega) ⟨by omega, Or.inr ⟨k, q, by omega, ha, hf, rfl⟩, fun x q2 hx hq hf2 => by
            by_cases e : x = k
            · subst e
              rw [ha] at hq
              rw [Option.some.inj hq]
              exact Nat.le_refl _
            · have := P3 x q2 (by omega) hq hf2
              omega⟩
          refine ⟨v, w3, (p_X9_wayFrom_10FFFF_L10 h1 g1 e3 hv e5 hv e6 (by rw [e7]; exact nI_ge hl (by omega)) hv e6).trans ?_, g2.trans f2, f3⟩
          rw [nI_1, e7]
          exact f1
        · obtain ⟨v, w3, f1, f2, f3⟩ := ih (k + 1) b .null w2 (by omega) M2 g3 H2 hb ⟨P1, P2, fun x q2 hx hq hf2 => by
            by_cases e : x = k
            · subst e
              rw [ha] at hq
              rw [← Option.some.inj hq]
              omega
            · exact P3 x q2 (by omega) hq hf2⟩
          refine ⟨v, w3, (p_X9_wayFrom_10FFFT_L10 h1 g1 e3 hv e5 hv e6 (by rw [e7]; exact nI_le (by omega) (by omega))).trans ?_, g2.trans f2, f3⟩
          rw [nI_1]
          exact f1
      · have e5 : (1000000 : Int32) ≤ w2.1 46 (mo (some q)).toNatClampNeg := by rw [e4]; exact nI_le (a := 1000000) (by omega) (by omega)
        obtain ⟨v, w3, f1, f2, f3⟩ := ih (k + 1) b .null w2 (by omega) M2 g3 H2 hb ⟨P1, P2, fun x q2 hx hq hf2 => by
          by_cases e : x = k
          · subst e
            rw [ha] at hq
            rw [← Option.some.inj hq] at hf2
            exact absurd hf2 hf
          · exact P3 x q2 (by omega) hq hf2⟩
        refine ⟨v, w3, (p_X9_wayFrom_10FFT_L10 h1 g1 e3 hv e5).trans ?_, g2.trans f2, f3⟩
        rw [nI_1]
        exact f1
theorem m_wayFrom {W : Nat → Nat} {r : List Nat} {w : Wd} (hc : okc c) (hr : okr (c 0 0) r) (hs : set < 2 ^ 31) (M : MS c w) (C : MCa c w) (H : MW W w) :
    ∃ v w2, sem (d + 4) 174 [.ref 34, .int (nI (cm r)), .int (nI set)] w = some (some (.int (nI v)), w2) ∧ cch w w2 ∧ MCa c w2 ∧ v ≤ 1000000 ∧ wfp c set W r 7 v := by
  have hr5 := hr.five hc
  have hcr := cm_lt hr5
  obtain ⟨y1, y2⟩ := H (cm r) hcr
  have t := p_X9_wayFrom_0_L10 (ex := sem (d + 3)) (x1 := nI (cm r)) (x2 := nI set) (w := w) (vp_in_nI hcr (by decide))
  rw [nI_clamp (by omega), y2] at t
  obtain ⟨v, w2, g1, g2⟩ := l_wayFrom (d := d) hc hr hs 7 0 (W (cm r)) .null w (by omega) M C H y1 ⟨Nat.le_refl _, Or.inl rfl, fun x q hx => absurd hx (Nat.not_lt_zero _)⟩
  exact ⟨v, w2, e_X9_wayFrom.trans (t.trans g1), g2⟩
/-- all ways, summed -/
def sN (W : Nat → Nat) : Nat → Nat
  | 0 => 0
  | n + 1 => sN W n + W n
def upW (W : Nat → Nat) (y v : Nat) : Nat → Nat := fun k => if k = y then v else W k
theorem sN_up (W : Nat → Nat) (y v : Nat) : ∀ n, (n ≤ y → sN (upW W y v) n = sN W n) ∧ (y < n → sN (upW W y v) n + W y = sN W n + v) := by
  intro n
  induction n with
  | zero => exact ⟨fun _ => rfl, fun h => absurd h (Nat.not_lt_zero _)⟩
  | succ n ih =>
    refine ⟨fun h => ?_, fun h => ?_⟩
    · show sN (upW W y v) n + upW W y v n = sN W n + W n
      rw [ih.1 (by omega)]
      unfold upW
      rw [if_neg (by omega)]
    · show sN (upW W y v) n + upW W y v n + W y = sN W n + W n + v
      by_cases e : n = y
      · subst e
        rw [ih.1 (Nat.le_refl _)]
        unfold upW
        rw [if_pos rfl]
        omega
      · have := ih.2 (by omega)
        have e2 : upW W y v n = W n := if_neg e
        rw [e2]
        omega
theorem upW_same (W : Nat → Nat) (y : Nat) : upW W y (W y) = W := by
  funext k
  unfold upW
  by_cases h : k = y
  · rw [if_pos h, h]
  · rw [if_neg h]
theorem MW.put {W : Nat → Nat} {w : Wd} {y v : Nat} (H : MW W w) (hv : v ≤ 1000000) : MW (upW W y v) (updI w 46 y (nI v)) := by
  intro k hk
  unfold upW
  by_cases e : k = y
  · rw [if_pos e, e, rd_e]
    exact ⟨hv, rfl⟩
  · rw [if_neg e, rd_k e]
    exact H k hk
/-- ways that are right as far as they go -/
def okW (c : Nat → Nat → Nat) (set e : Nat) (W : Nat → Nat) : Prop :=
  (∀ r, okr (c 0 0) r → W (cm r) < 1000000 → ∃ xs, leads c set e xs r ∧ W (cm r) = wt 1000 1 c set xs r) ∧
  (∀ r, okr (c 0 0) r → wk c r = e → W (cm r) = 0) ∧ ∀ y, y < 7776 → (∀ r, okr (c 0 0) r → cm r ≠ y) → W y = 1000000
theorem okW.put {e : Nat} {W : Nat → Nat} {r : List Nat} {v : Nat} (hc : okc c) (O : okW c set e W) (hr : okr (c 0 0) r) (P : wfp c set W r 7 v) : okW c set e (upW W (cm r) v) := by
  obtain ⟨O1, O2, O3⟩ := O
  have same : ∀ q, okr (c 0 0) q → q ≠ r → upW W (cm r) v (cm q) = W (cm q) := fun q hq hne => if_neg (fun h => hne (cm_inj (hq.five hc).2 (hr.five hc).2 h))
  have self : upW W (cm r) v (cm r) = v := if_pos rfl
  refine ⟨fun q hq hf => ?_, fun q hq hw => ?_, fun y hy hn => ?_⟩
  · by_cases e1 : q = r
    · subst e1
      rw [self] at hf ⊢
      rcases P.2.1 with h | ⟨x, q2, hx, hq2, hf2, h⟩
      · rw [h] at hf ⊢; exact O1 q hq hf
      · obtain ⟨xs, x1, x2⟩ := O1 q2 (af_ok hq (by omega) hq2) hf2
        exact ⟨x :: xs, leads.cons (by omega) hq2 x1, by rw [h, x2, wt_cons hq2]⟩
    · rw [same q hq e1] at hf ⊢
      exact O1 q hq hf
  · by_cases e1 : q = r
    · subst e1
      rw [self]
      have := P.1
      rw [O2 q hq hw] at this
      omega
    · rw [same q hq e1]
      exact O2 q hq hw
  · have e1 : upW W (cm r) v y = W y := if_neg (fun h => hn r hr h.symm)
    rw [e1]
    exact O3 y hy hn
end MSWEEP

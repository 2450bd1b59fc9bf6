/-! the reference side: the sweeps -/
def wch (w w2 : Wd) : Prop := (∀ q, q ≠ 34 → q ≠ 46 → q ≠ 48 → w2.1 q = w.1 q) ∧ (∀ j, j ≠ 30 → w2.1 34 j = w.1 34 j) ∧ w2.2 = w.2
theorem wch.refl (w : Wd) : wch w w := ⟨fun _ _ _ _ => rfl, fun _ _ => rfl, rfl⟩
theorem wch.trans {w w2 w3 : Wd} (a : wch w w2) (b : wch w2 w3) : wch w w3 := ⟨fun q h1 h2 h3 => (b.1 q h1 h2 h3).trans (a.1 q h1 h2 h3), fun j h => (b.2.1 j h).trans (a.2.1 j h), b.2.2.trans a.2.2⟩
theorem cch.wch {w w2 : Wd} (h : cch w w2) : wch w w2 := ⟨fun q h1 _ h3 => h.1 q h1 h3, h.2.1, h.2.2⟩
theorem wch_up (w : Wd) (y : Nat) (x : Int32) : wch w (updI w 46 y x) := ⟨fun q _ h2 _ => if_neg h2, fun j _ => rd_n (by decide), rfl⟩
theorem MS.wch {c : Nat → Nat → Nat} {w w2 : Wd} (M : MS c w) (h : wch w w2) : MS c w2 := by
  unfold MS at *
  rw [h.2.1 13 (by decide), h.2.1 14 (by decide), h.2.1 15 (by decide), h.1 39 (by decide) (by decide) (by decide), h.1 36 (by decide) (by decide) (by decide), h.1 38 (by decide) (by decide) (by decide)]
  exact M
theorem MV.wch {c : Nat → Nat → Nat} {w w2 : Wd} (M : MV c w) (h : wch w w2) : MV c w2 := by
  unfold MV at *
  rw [h.1 47 (by decide) (by decide) (by decide)]
  exact M
theorem MCa.up {c : Nat → Nat → Nat} {w : Wd} {y : Nat} {x : Int32} (C : MCa c w) : MCa c (updI w 46 y x) := by
  unfold MCa at *
  rw [rd_n (by decide)]
  rcases C with C | ⟨set, c1, c2, c3⟩
  · exact Or.inl C
  · exact Or.inr ⟨set, c1, c2, fun j hj => by rw [rd_n (by decide)]; exact c3 j hj⟩
/-- how far a sweep has come -/
def swI (c : Nat → Nat → Nat) (set : Nat) (W0 W : Nat → Nat) (b : Bool) (y : Nat) : Prop :=
  (b = false ∧ W = W0 ∧ ∀ r, okr (c 0 0) r → cm r < y → wfp c set W0 r 7 (W0 (cm r))) ∨ (b = true ∧ sN W 7776 < sN W0 7776)
section MSW2
variable {d : Nat} {c : Nat → Nat → Nat} {set e : Nat}
theorem l_sweep1 (hc : okc c) (hs : set < 2 ^ 31) (W0 : Nat → Nat) : ∀ (m y : Nat) (W : Nat → Nat) (b : Bool) (v1 v5 : Value) (w : Wd), m + y = 7776 → MS c w → MCa c w → MV c w → MW W w → okW c set e W → swI c set W0 W b y →
    ∃ W2 b2 w2, runs (T_X9_sweeps (sem (d + 4))) (56, [.ref 34, v1, .int (nI set), .int (b2i b), .int (nI y), v5], [], w) = runs (T_X9_sweeps (sem (d + 4))) (47, [.ref 34, .null, .int (nI set), .int (b2i b2), .null, .null], [], w2) ∧ wch w w2 ∧ MCa c w2 ∧ MW W2 w2 ∧ okW c set e W2 ∧ swI c set W0 W2 b2 7776 := by
  intro m
  induction m with
  | zero =>
    intro y W b v1 v5 w hk M C V H O I
    have ek : y = 7776 := by omega
    subst ek
    exact ⟨W, b, w, p_X9_sweeps_56T_L47 (by decide), wch.refl w, C, H, O, I⟩
  | succ m ih =>
    intro y W b v1 v5 w hk M C V H O I
    have hy : y < 7776 := by omega
    have h1 : ¬ (7776 : Int32) ≤ nI y := nI_ge (a := y) (b := 7776) (by omega) (by decide)
    have hv : vp_in (nI y) 7776 := vp_in_nI hy (by decide)
    have hcl : (nI y).toNatClampNeg = y := nI_clamp (by omega)
    obtain ⟨y1, y2⟩ := H y hy
    rcases V y hy with ⟨v0, vn⟩ | ⟨v0, r, hr, hry⟩
    · -- no row
      have hW := O.2.2 y hy vn
      have H2 : MW W (updI w 46 y 1000000) := by
        have := H.put (y := y) (v := W y) y1
        rw [upW_same, hW] at this
        exact this
      have I2 : swI c set W0 W b (y + 1) := by
        rcases I with ⟨i1, i2, i3⟩ | i
        · exact Or.inl ⟨i1, i2, fun r hr hlt => i3 r hr (by have := vn r hr; omega)⟩
        · exact Or.inr i
      obtain ⟨W2, b2, w2, f1, f2, f3⟩ := ih (y + 1) W b .null (.int 1000000) (updI w 46 y 1000000) (by omega) (M.wch (wch_up w y _)) C.up (V.wch (wch_up w y _)) H2 O I2
      refine ⟨W2, b2, w2, ?_, (wch_up w y _).trans f2, f3⟩
      rw [← nI_1] at f1
      cases b with
      | true =>
        have t := p_X9_sweeps_56FTT_L56 (ex := sem (d + 4)) (v1 := v1) (x2 := nI set) (x3 := 1) (x4 := nI y) (v5 := v5) (w := w) h1 hv (by rw [hcl]; exact v0) (by decide) hv
        rw [hcl] at t
        exact t.trans f1
      | false =>
        have t := p_X9_sweeps_56FTFT_L56 (ex := sem (d + 4)) (v1 := v1) (x2 := nI set) (x3 := 0) (x4 := nI y) (v5 := v5) (w := w) h1 hv (by rw [hcl]; exact v0) rfl hv (by rw [hcl, y2]; exact nI_le (b := 1000000) y1 (by decide)) hv
        rw [hcl] at t
        exact t.trans f1
    · -- a row
      subst hry
      obtain ⟨v, w1, g1, g2, g3, g4, g5⟩ := m_wayFrom (d := d) hc hr hs M C H
      have H1 := H.cch g2
      have H2 := H1.put (y := cm r) (v := v) g4
      have O2 := O.put hc hr g5
      have hsum := (sN_up W (cm r) v 7776).2 hy
      have hle := g5.1
      have hn0 : ¬ w.1 47 (nI (cm r)).toNatClampNeg = 0 := by rw [hcl]; exact v0
      have nx := fun b I2 => ih (cm r + 1) (upW W (cm r) v) b .null (.int (nI v)) (updI w1 46 (cm r) (nI v)) (by omega) ((M.cch g2).wch (wch_up w1 _ _)) g3.up ((V.cch g2).wch (wch_up w1 _ _)) H2 O2 I2
      cases b with
      | true =>
        rcases I with ⟨i1, _⟩ | ⟨_, i⟩
        · exact absurd i1 (by decide)
        · obtain ⟨W2, b2, w2, f1, f2, f3⟩ := nx true (Or.inr ⟨rfl, by omega⟩)
          refine ⟨W2, b2, w2, ?_, (g2.wch.trans (wch_up w1 _ _)).trans f2, f3⟩
          rw [← nI_1] at f1
          have t := p_X9_sweeps_56FFT_L56 (ex := sem (d + 4)) (v1 := v1) (x2 := nI set) (x3 := 1) (x4 := nI (cm r)) (v5 := v5) (w := w) h1 hv hn0 g1 (by decide) hv
          rw [hcl] at t
          exact t.trans f1
      | false =>
        rcases I with ⟨_, i2, i3⟩ | ⟨i1, _⟩
        · have e1 : w1.1 46 (nI (cm r)).toNatClampNeg = nI (W (cm r)) := by rw [hcl]; exact (H1 _ hy).2
          by_cases hl : W (cm r) ≤ v
          · have hev : v = W (cm r) := by omega
            obtain ⟨W2, b2, w2, f1, f2, f3⟩ := nx false (Or.inl ⟨rfl, by rw [hev, upW_same]; exact i2, fun q hq hlt => by
              by_cases hqr : cm q = cm r
              · have e2 := cm_inj (hq.five hc).2 (hr.five hc).2 hqr
                rw [e2, ← i2, ← hev]
                exact g5
              · exact i3 q hq (by omega)⟩)
            refine ⟨W2, b2, w2, ?_, (g2.wch.trans (wch_up w1 _ _)).trans f2, f3⟩
            rw [← nI_1] at f1
            have t := p_X9_sweeps_56FFFT_L56 (ex := sem (d + 4)) (v1 := v1) (x2 := nI set) (x3 := 0) (x4 := nI (cm r)) (v5 := v5) (w := w) h1 hv hn0 g1 rfl hv (by rw [e1]; exact nI_le hl (by omega)) hv
            rw [hcl] at t
            exact t.trans f1
          · obtain ⟨W2, b2, w2, f1, f2, f3⟩ := nx true (Or.inr ⟨rfl, by rw [← i2]; omega⟩)
            refine ⟨W2, b2, w2, ?_, (g2.wch.trans (wch_up w1 _ _)).trans f2, f3⟩
            rw [← nI_1] at f1
            have t := p_X9_sweeps_56FFFF_L56 (ex := sem (d + 4)) (v1 := v1) (x2 := nI set) (x3 := 0) (x4 := nI (cm r)) (v5 := v5) (w := w) h1 hv hn0 g1 rfl hv (by rw [e1]; exact nI_ge (by omega) (by omega)) hv
            rw [hcl] at t
            exact t.trans f1
        · exact absurd i1 (by decide)
theorem l_sweep2 (hc : okc c) (hs : set < 2 ^ 31) : ∀ (n : Nat) (W : Nat → Nat) (v1 v4 v5 : Value) (w : Wd), sN W 7776 ≤ n → MS c w → MCa c w → MV c w → MW W w → okW c set e W →
    ∃ W2 w2, runs (T_X9_sweeps (sem (d + 4))) (47, [.ref 34, v1, .int (nI set), .int 1, v4, v5], [], w) = some (none, w2) ∧ wch w w2 ∧ MCa c w2 ∧ MW W2 w2 ∧ okW c set e W2 ∧ ∀ r, okr (c 0 0) r → wfp c set W2 r 7 (W2 (cm r)) := by
  intro n
  induction n with
  | zero =>
    intro W v1 v4 v5 w hn M C V H O
    obtain ⟨W2, b2, w2, f1, f2, f3, f4, f5, f6⟩ := l_sweep1 (d := d) (e := e) hc hs W 7776 0 W false .null .null w (by omega) M C V H O (Or.inl ⟨rfl, rfl, fun r _ h => absurd h (Nat.not_lt_zero _)⟩)
    rcases f6 with ⟨k1, k2, k3⟩ | ⟨k1, k2⟩
    · subst k1
      exact ⟨W2, w2, (p_X9_sweeps_47F_L56 (by decide)).trans (f1.trans (p_X9_sweeps_47T_R rfl)), f2, f3, f4, f5, fun r hr => by rw [k2]; exact k3 r hr (cm_lt (hr.five hc))⟩
    · omega
  | succ n ih =>
    intro W v1 v4 v5 w hn M C V H O
    obtain ⟨W2, b2, w2, f1, f2, f3, f4, f5, f6⟩ := l_sweep1 (d := d) (e := e) hc hs W 7776 0 W false .null .null w (by omega) M C V H O (Or.inl ⟨rfl, rfl, fun r _ h => absurd h (Nat.not_lt_zero _)⟩)
    rcases f6 with ⟨k1, k2, k3⟩ | ⟨k1, k2⟩
    · subst k1
      exact ⟨W2, w2, (p_X9_sweeps_47F_L56 (by decide)).trans (f1.trans (p_X9_sweeps_47T_R rfl)), f2, f3, f4, f5, fun r hr => by rw [k2]; exact k3 r hr (cm_lt (hr.five hc))⟩
    · subst k1
      obtain ⟨W3, w3, g1, g2, g3⟩ := ih W2 .null .null .null w2 (by omega) (M.wch f2) f3 (V.wch f2) f4 f5
      exact ⟨W3, w3, (p_X9_sweeps_47F_L56 (by decide)).trans (f1.trans g1), f2.trans g2, g3⟩
/-- the ways as they are at first, as far as they are set -/
def iniP (c : Nat → Nat → Nat) (e : Nat) (W : Nat → Nat) (y : Nat) (w : Wd) : Prop :=
  (∀ k, k < y → W k ≤ 1000000 ∧ w.1 46 k = nI (W k)) ∧ (∀ r, okr (c 0 0) r → cm r < y → W (cm r) = if wk c r = e then 0 else 1000000) ∧ ∀ k, k < y → (∀ r, okr (c 0 0) r → cm r ≠ k) → W k = 1000000
theorem iniP.put {W : Nat → Nat} {y v : Nat} {w : Wd} (P : iniP c e W y w) (hv : v ≤ 1000000) (h2 : ∀ r, okr (c 0 0) r → cm r = y → v = if wk c r = e then 0 else 1000000) (h3 : (∀ r, okr (c 0 0) r → cm r ≠ y) → v = 1000000) : iniP c e (upW W y v) (y + 1) (updI w 46 y (nI v)) := by
  obtain ⟨P1, P2, P3⟩ := P
  refine ⟨fun k hk => ?_, fun r hr hk => ?_, fun k hk hn => ?_⟩
  · by_cases e1 : k = y
    · have e2 : upW W y v k = v := if_pos e1
      rw [e2, e1, rd_e]
      exact ⟨hv, rfl⟩
    · have e2 : upW W y v k = W k := if_neg e1
      rw [e2, rd_k e1]
      exact P1 k (by omega)
  · by_cases e1 : cm r = y
    · have e2 : upW W y v (cm r) = v := if_pos e1
      rw [e2]
      exact h2 r hr e1
    · have e2 : upW W y v (cm r) = W (cm r) := if_neg e1
      rw [e2]
      exact P2 r hr (by omega)
  · by_cases e1 : k = y
    · have e2 : upW W y v k = v := if_pos e1
      rw [e2]
      rw [e1] at hn
      exact h3 hn
    · have e2 : upW W y v k = W k := if_neg e1
      rw [e2]
      exact P3 k (by omega) hn
theorem l_sweep0 (hc : okc c) (he : e < 2 ^ 10) : ∀ (m y : Nat) (W : Nat → Nat) (v4 v5 : Value) (w : Wd), m + y = 7776 → MS c w → MV c w → iniP c e W y w →
    ∃ W2 w2, runs (T_X9_sweeps (sem (d + 4))) (2, [.ref 34, .int (nI e), .int (nI set), .int (nI y), v4, v5], [], w) = runs (T_X9_sweeps (sem (d + 4))) (47, [.ref 34, .null, .int (nI set), .int 1, .null, .null], [], w2) ∧ wch w w2 ∧ (MCa c w → MCa c w2) ∧ iniP c e W2 7776 w2 := by
  intro m
  induction m with
  | zero =>
    intro y W v4 v5 w hk M V P
    have ek : y = 7776 := by omega
    subst ek
    exact ⟨W, w, p_X9_sweeps_2T_L47 (by decide), wch.refl w, fun C => C, P⟩
  | succ m ih =>
    intro y W v4 v5 w hk M V P
    have hy : y < 7776 := by omega
    have h1 : ¬ (7776 : Int32) ≤ nI y := nI_ge (a := y) (b := 7776) (by omega) (by decide)
    have hv : vp_in (nI y) 7776 := vp_in_nI hy (by decide)
    have hcl : (nI y).toNatClampNeg = y := nI_clamp (by omega)
    have nx := fun v (P2 : iniP c e (upW W y v) (y + 1) (updI w 46 y (nI v))) => ih (y + 1) (upW W y v) .null .null (updI w 46 y (nI v)) (by omega) (M.wch (wch_up w _ _)) (V.wch (wch_up w _ _)) P2
    rcases V y hy with ⟨v0, vn⟩ | ⟨v0, r, hr, hry⟩
    · obtain ⟨W2, w2, f1, f2, f3, f4⟩ := nx 1000000 (P.put (Nat.le_refl _) (fun r hr h => absurd h (vn r hr)) (fun _ => rfl))
      have t := p_X9_sweeps_2FT_L2 (ex := sem (d + 4)) (x1 := nI e) (x2 := nI set) (x3 := nI y) (v4 := v4) (v5 := v5) (w := w) h1 hv (by rw [hcl]; exact v0) hv
      rw [hcl, nI_1] at t
      exact ⟨W2, w2, t.trans f1, (wch_up w _ _).trans f2, fun C => f3 C.up, f4⟩
    · subst hry
      have hn0 : ¬ w.1 47 (nI (cm r)).toNatClampNeg = 0 := by rw [hcl]; exact v0
      have e1 := m_worksOf (d := d + 3) M hc hr
      have hw := wk_lt hc hr.2
      have inj : ∀ q, okr (c 0 0) q → cm q = cm r → q = r := fun q hq h => cm_inj (hq.five hc).2 (hr.five hc).2 h
      by_cases hwe : wk c r = e
      · obtain ⟨W2, w2, f1, f2, f3, f4⟩ := nx 0 (P.put (Nat.zero_le _) (fun q hq h => by rw [inj q hq h, if_pos hwe]) (fun h => absurd rfl (h r hr)))
        have t := p_X9_sweeps_2FFF_L2 (ex := sem (d + 4)) (x1 := nI e) (x2 := nI set) (x3 := nI (cm r)) (v4 := v4) (v5 := v5) (w := w) h1 hv hn0 e1 (by rw [hwe]) hv
        rw [hcl, nI_1] at t
        exact ⟨W2, w2, t.trans f1, (wch_up w _ _).trans f2, fun C => f3 C.up, f4⟩
      · obtain ⟨W2, w2, f1, f2, f3, f4⟩ := nx 1000000 (P.put (Nat.le_refl _) (fun q hq h => by rw [inj q hq h, if_neg hwe]) (fun _ => rfl))
        have t := p_X9_sweeps_2FFT_L2 (ex := sem (d + 4)) (x1 := nI e) (x2 := nI set) (x3 := nI (cm r)) (v4 := v4) (v5 := v5) (w := w) h1 hv hn0 e1 (fun h => hwe ((nI_eq (by omega) (by omega)).mp h)) hv
        rw [hcl, nI_1] at t
        exact ⟨W2, w2, t.trans f1, (wch_up w _ _).trans f2, fun C => f3 C.up, f4⟩
theorem m_sweeps {w : Wd} (hc : okc c) (hs : set < 2 ^ 31) (he : e < 2 ^ 10) (M : MS c w) (C : MCa c w) (V : MV c w) :
    ∃ W w2, sem (d + 5) 175 [.ref 34, .int (nI e), .int (nI set)] w = some (none, w2) ∧ wch w w2 ∧ MCa c w2 ∧ MW W w2 ∧ fixt c set e (fun r => W (cm r)) := by
  obtain ⟨W1, w1, a1, a2, a3, a4⟩ := l_sweep0 (d := d) (set := set) hc he 7776 0 (fun _ => 0) .null .null w (by omega) M V ⟨fun k h => absurd h (Nat.not_lt_zero _), fun r _ h => absurd h (Nat.not_lt_zero _), fun k h => absurd h (Nat.not_lt_zero _)⟩
  have H1 : MW W1 w1 := a4.1
  have O1 : okW c set e W1 := by
    refine ⟨fun r hr hf => ?_, fun r hr hw => ?_, fun y hy hn => a4.2.2 y hy hn⟩
    · have := a4.2.1 r hr (cm_lt (hr.five hc))
      by_cases hw : wk c r = e
      · rw [if_pos hw] at this
        exact ⟨[], ⟨by simp, r, rfl, hw⟩, by rw [this]; rfl⟩
      · rw [if_neg hw] at this
        omega
    · have := a4.2.1 r hr (cm_lt (hr.five hc))
      rw [if_pos hw] at this
      exact this
  obtain ⟨W2, w2, b1, b2, b3, b4, b5, b6⟩ := l_sweep2 (d := d) (e := e) hc hs (sN W1 7776) W1 .null .null .null w1 (Nat.le_refl _) (M.wch a2) (a3 C) (V.wch a2) H1 O1
  refine ⟨W2, w2, e_X9_sweeps.trans (p_X9_sweeps_0_L2.trans (a1.trans b1)), a2.trans b2, b3, b4, fun r hr => (b4 _ (cm_lt (hr.five hc))).1, b5.1, b5.2.1, fun r x q hr hx ha hf => (b6 r hr).2.2 x q (by omega) ha hf⟩
end MSW2

/-! the reference side: who may say what; what is said -/
theorem and2 : ∀ m : Nat, m < 32 → ∀ a : Nat, a < 5 → ∀ b : Nat, b < 5 → (m &&& (2 ^ a ||| 2 ^ b) == 2 ^ a ||| 2 ^ b) = (m.testBit a && m.testBit b) := by decide +kernel
theorem nar0 : vp_nar .boolean 0 = 0 := by decide
theorem nar1 : vp_nar .boolean 1 = 1 := by decide
def sayK (c : Nat → Nat → Nat) (set j : Nat) : Bool := mayOne c set (2 ^ (j / 5) ||| 2 ^ (j % 5))
/-- what the reference remembers of who may say what -/
def MCa (c : Nat → Nat → Nat) (w : Wd) : Prop := w.1 34 30 = -9 ∨ ∃ set, set < 2 ^ 31 ∧ w.1 34 30 = nI set ∧ ∀ j, j < 25 → w.1 48 j = b2i (sayK c set j)
/-- nothing but what is remembered changes -/
def cch (w w2 : Wd) : Prop := (∀ q, q ≠ 34 → q ≠ 48 → w2.1 q = w.1 q) ∧ (∀ j, j ≠ 30 → w2.1 34 j = w.1 34 j) ∧ w2.2 = w.2
theorem cch.refl (w : Wd) : cch w w := ⟨fun _ _ _ => rfl, fun _ _ => rfl, rfl⟩
theorem cch.trans {w w2 w3 : Wd} (a : cch w w2) (b : cch w2 w3) : cch w w3 := ⟨fun q h1 h2 => (b.1 q h1 h2).trans (a.1 q h1 h2), fun j h => (b.2.1 j h).trans (a.2.1 j h), b.2.2.trans a.2.2⟩
theorem MS.cch {c : Nat → Nat → Nat} {w w2 : Wd} (M : MS c w) (h : cch w w2) : MS c w2 := by
  unfold MS at *
  rw [h.2.1 13 (by decide), h.2.1 14 (by decide), h.2.1 15 (by decide), h.1 39 (by decide) (by decide), h.1 36 (by decide) (by decide), h.1 38 (by decide) (by decide)]
  exact M
theorem cch.chg (w : Wd) (g : Nat → Int32) : _root_.Jvm.Pilot.CSpellLayersLaw_law_r8466_fd8219.cch w (_root_.Jvm.Pilot.CSpellLayersLaw_law_r8466_fd8219.chg w 48 g) := ⟨fun q _ h2 => chg_ne w g h2, fun j _ => by rw [chg_ne w g (b := 34) (by decide)], rfl⟩
section MSAY
variable {d : Nat} {c : Nat → Nat → Nat}
theorem l_canSay2 {w : Wd} {set k : Nat} {e f : Int32} (M : MS c w) (hc : okc c) (hs : set < 2 ^ 31) (hk : k < 25) : ∀ (m q : Nat) (g : Nat → Int32), m + q = c 0 2 → g k = b2i (mayN c set (2 ^ (k / 5) ||| 2 ^ (k % 5)) q) →
    ∃ g2, runs (T_X9_canSay (sem (d + 1))) (29, [.ref 34, .int (nI set), .int e, .int f, .int (nI k), .int (nI q)], [], chg w 48 g) = runs (T_X9_canSay (sem (d + 1))) (11, [.ref 34, .int (nI set), .int e, .int f, .int (nI (k + 1)), .null], [], chg w 48 g2) ∧ g2 k = b2i (sayK c set k) ∧ ∀ j, j ≠ k → g2 j = g j := by
  have h3 := hc.2.2.1
  have hv : vp_in (nI k) 25 := vp_in_nI hk (by decide)
  intro m
  induction m with
  | zero =>
    intro q g hq hg
    have eq : q = c 0 2 := by omega
    subst eq
    refine ⟨g, (p_X9_canSay_29T_L11 (by rw [chg_ne _ _ (by decide), M.2.2.1]; exact nI_le (Nat.le_refl _) (by omega))).trans ?_, hg, fun _ _ => rfl⟩
    rw [nI_1]
  | succ m ih =>
    intro q g hq hg
    have M2 : MS c (chg w 48 g) := M.cch (cch.chg w g)
    have hlt : ¬ ((chg w 48 g).1 34 15) ≤ nI q := by rw [M2.2.2.1]; exact nI_ge (by omega) (by omega)
    have hcl : (nI k).toNatClampNeg = k := nI_clamp (by omega)
    have h5 := c5_lt hc (q := q) (by omega)
    have e1 : mayN c set (2 ^ (k / 5) ||| 2 ^ (k % 5)) (q + 1) = (mayN c set (2 ^ (k / 5) ||| 2 ^ (k % 5)) q || (set.testBit q && ((c 5 q).testBit (k / 5) && (c 5 q).testBit (k % 5)))) := by
      show (_ || (set.testBit q && (c 5 q &&& (2 ^ (k / 5) ||| 2 ^ (k % 5)) == 2 ^ (k / 5) ||| 2 ^ (k % 5)))) = _
      rw [and2 (c 5 q) (by omega) (k / 5) (by omega) (k % 5) (by omega)]
    have nx : ∀ x : Int32, x = b2i (mayN c set (2 ^ (k / 5) ||| 2 ^ (k % 5)) (q + 1)) → ∃ g2, runs (T_X9_canSay (sem (d + 1))) (29, [.ref 34, .int (nI set), .int e, .int f, .int (nI k), .int (nI (q + 1))], [], updI (chg w 48 g) 48 (nI k).toNatClampNeg x) = runs (T_X9_canSay (sem (d + 1))) (11, [.ref 34, .int (nI set), .int e, .int f, .int (nI (k + 1)), .null], [], chg w 48 g2) ∧ g2 k = b2i (sayK c set k) ∧ ∀ j, j ≠ k → g2 j = g j := by
      intro x hx
      rw [updI_chg, chg_at, chg_chg, hcl]
      obtain ⟨g2, k1, k2, k3⟩ := ih (q + 1) (upd g k x) (by omega) (by rw [upd_at]; exact hx)
      exact ⟨g2, k1, k2, fun j hj => by rw [k3 j hj, upd_ne _ _ hj]⟩
    have hg' : (chg w 48 g).1 48 (nI k).toNatClampNeg = b2i (mayN c set (2 ^ (k / 5) ||| 2 ^ (k % 5)) q) := by rw [chg_at, hcl, hg]
    have d5 : nI k / 5 = nI (k / 5) := pk_div (a := k) (d := 5) (by omega) (by decide) (by decide)
    have m5 : nI k - nI k / 5 * 5 = nI (k % 5) := pk_rem (a := k) (d := 5) (by omega) (by decide) (by decide)
    have y1 := m_may (d := d) (q := q) (s := k / 5) M2 hc (by omega) (by omega)
    have y2 := m_may (d := d) (q := q) (s := k % 5) M2 hc (by omega) (by omega)
    rw [← d5] at y1
    rw [← m5] at y2
    cases a1 : mayN c set (2 ^ (k / 5) ||| 2 ^ (k % 5)) q with
    | true =>
      rw [a1] at hg' e1
      obtain ⟨g2, k1, k2⟩ := nx (vp_nar .boolean 1) (by rw [e1, nar1]; rfl)
      refine ⟨g2, (p_X9_canSay_29FT_L29 hlt hv (by rw [hg']; decide) hv).trans ?_, k2⟩
      rw [nI_1]
      exact k1
    | false =>
      rw [a1] at hg' e1
      cases a2 : set.testBit q with
      | false =>
        rw [a2] at e1
        obtain ⟨g2, k1, k2⟩ := nx (vp_nar .boolean 0) (by rw [e1, nar0]; rfl)
        refine ⟨g2, (p_X9_canSay_29FFT_L29 hlt hv (by rw [hg']; rfl) (fun h => by rw [(i_bit1 hs (by omega)).mp h] at a2; exact absurd a2 (by decide)) hv).trans ?_, k2⟩
        rw [nI_1]
        exact k1
      | true =>
        rw [a2] at e1
        have b1 := (i_bit1 (n := set) (k := q) hs (by omega)).mpr a2
        cases a3 : (c 5 q).testBit (k / 5) with
        | false =>
          rw [a3] at e1 y1
          obtain ⟨g2, k1, k2⟩ := nx (vp_nar .boolean 0) (by rw [e1, nar0]; rfl)
          refine ⟨g2, (p_X9_canSay_29FFFT_L29 hlt hv (by rw [hg']; rfl) b1 y1 rfl hv).trans ?_, k2⟩
          rw [nI_1]
          exact k1
        | true =>
          rw [a3] at e1 y1
          cases a4 : (c 5 q).testBit (k % 5) with
          | false =>
            rw [a4] at e1 y2
            obtain ⟨g2, k1, k2⟩ := nx (vp_nar .boolean 0) (by rw [e1, nar0]; rfl)
            refine ⟨g2, (p_X9_canSay_29FFFFT_L29 hlt hv (by rw [hg']; rfl) b1 y1 (by decide) y2 rfl hv).trans ?_, k2⟩
            rw [nI_1]
            exact k1
          | true =>
            rw [a4] at e1 y2
            obtain ⟨g2, k1, k2⟩ := nx (vp_nar .boolean 1) (by rw [e1, nar1]; rfl)
            refine ⟨g2, (p_X9_canSay_29FFFFF_L29 hlt hv (by rw [hg']; rfl) b1 y1 (by decide) y2 (by decide) hv).trans ?_, k2⟩
            rw [nI_1]
            exact k1
theorem l_canSay1 {w : Wd} {set e f : Nat} (M : MS c w) (hc : okc c) (hs : set < 2 ^ 31) (he : e < 5) (hf : f < 5) : ∀ (m k : Nat) (v5 : Value) (g : Nat → Int32), m + k = 25 → (∀ j, j < k → g j = b2i (sayK c set j)) →
    ∃ w2, runs (T_X9_canSay (sem (d + 1))) (11, [.ref 34, .int (nI set), .int (nI e), .int (nI f), .int (nI k), v5], [], chg w 48 g) = some (some (.int (b2i (mayOne c set (2 ^ e ||| 2 ^ f)))), w2) ∧ cch w w2 ∧ MCa c w2 := by
  have e5 : 5 * nI e + nI f = nI (5 * e + f) := by
    have k1 : nI e * 5 = nI (e * 5) := pk_mul e 5
    rw [Int32.mul_comm, k1, nI_add, Nat.mul_comm]
  have h5 : vp_in (5 * nI e + nI f) 25 := by rw [e5]; exact vp_in_nI (by omega) (by decide)
  intro m
  induction m with
  | zero =>
    intro k v5 g hk hg
    have ek : k = 25 := by omega
    subst ek
    have e6 : (chg w 48 g).1 48 (5 * nI e + nI f).toNatClampNeg = b2i (mayOne c set (2 ^ e ||| 2 ^ f)) := by
      rw [chg_at, e5, nI_clamp (by omega), hg _ (by omega)]
      unfold sayK
      rw [show (5 * e + f) / 5 = e by omega, show (5 * e + f) % 5 = f by omega]
    have t := p_X9_canSay_11T_R (ex := sem (d + 1)) (x1 := nI set) (x2 := nI e) (x3 := nI f) (x4 := nI 25) (v5 := v5) (w := chg w 48 g) (by decide) h5 (by rw [e6]; exact b2i_01 _)
    rw [e6] at t
    refine ⟨_, t, ?_, Or.inr ⟨set, hs, rd_e, fun j hj => by rw [rd_n (by decide), chg_at]; exact hg j hj⟩⟩
    refine (cch.chg w g).trans ⟨fun q h1 _ => if_neg h1, fun j hj => rd_k hj, rfl⟩
  | succ m ih =>
    intro k v5 g hk hg
    have hcl : (nI k).toNatClampNeg = k := nI_clamp (by omega)
    have t := p_X9_canSay_11F_L29 (ex := sem (d + 1)) (x1 := nI set) (x2 := nI e) (x3 := nI f) (x4 := nI k) (v5 := v5) (w := chg w 48 g) (nI_ge (a := k) (b := 25) (by omega) (by decide)) (vp_in_nI (by omega) (by decide))
    rw [updI_chg, chg_at, chg_chg, hcl, nar0] at t
    obtain ⟨g2, k1, k2, k3⟩ := l_canSay2 (d := d) (e := nI e) (f := nI f) M hc hs (k := k) (by omega) (c 0 2) 0 (upd g k 0) (by omega) (by rw [upd_at]; rfl)
    obtain ⟨w2, f1, f2⟩ := ih (k + 1) .null g2 (by omega) (fun j hj => by
      by_cases hjk : j = k
      · rw [hjk]; exact k2
      · rw [k3 j hjk, upd_ne _ _ hjk]; exact hg j (by omega))
    exact ⟨w2, t.trans (k1.trans f1), f2⟩
theorem chg_self (w : Wd) (a : Nat) : chg w a (w.1 a) = w := by
  unfold chg
  have : (fun q => if q = a then w.1 a else w.1 q) = w.1 := by
    funext q
    by_cases h : q = a
    · rw [if_pos h, h]
    · rw [if_neg h]
  rw [this]
theorem m_canSay {w : Wd} {set e f : Nat} (M : MS c w) (hc : okc c) (C : MCa c w) (hs : set < 2 ^ 31) (he : e < 5) (hf : f < 5) :
    ∃ w2, sem (d + 2) 170 [.ref 34, .int (nI set), .int (nI e), .int (nI f)] w = some (some (.int (b2i (mayOne c set (2 ^ e ||| 2 ^ f)))), w2) ∧ cch w w2 ∧ MCa c w2 := by
  by_cases ha : nI set = w.1 34 30
  · rcases C with C | ⟨set2, c1, c2, c3⟩
    · exfalso
      rw [C] at ha
      have := nI_pos (n := set) hs
      rw [ha] at this
      exact this (by decide)
    · have e0 : set = set2 := (nI_eq hs c1).mp (by rw [ha, c2])
      subst e0
      have e5 : 5 * nI e + nI f = nI (5 * e + f) := by
        have k1 : nI e * 5 = nI (e * 5) := pk_mul e 5
        rw [Int32.mul_comm, k1, nI_add, Nat.mul_comm]
      have h5 : vp_in (5 * nI e + nI f) 25 := by rw [e5]; exact vp_in_nI (by omega) (by decide)
      have e6 : w.1 48 (5 * nI e + nI f).toNatClampNeg = b2i (mayOne c set (2 ^ e ||| 2 ^ f)) := by
        rw [e5, nI_clamp (by omega), c3 _ (by omega)]
        unfold sayK
        rw [show (5 * e + f) / 5 = e by omega, show (5 * e + f) % 5 = f by omega]
      have t := p_X9_canSay_0T_R (ex := sem (d + 1)) (x1 := nI set) (x2 := nI e) (x3 := nI f) (w := w) ha h5 (by rw [e6]; exact b2i_01 _)
      rw [e6] at t
      exact ⟨w, e_X9_canSay.trans t, cch.refl w, Or.inr ⟨set, c1, c2, c3⟩⟩
  · obtain ⟨w2, k1, k2⟩ := l_canSay1 (d := d) (w := w) M hc hs he hf 25 0 .null (w.1 48) (by omega) (fun j h => absurd h (Nat.not_lt_zero _))
    rw [chg_self] at k1
    exact ⟨w2, e_X9_canSay.trans ((p_X9_canSay_0F_L11 ha).trans k1), k2⟩
end MSAY

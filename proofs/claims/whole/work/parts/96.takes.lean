/-! takes agrees -/
/-- the least set of those that will do; none: -9 -/
def isLst (f : Nat → Bool) (n : Nat) (x : Int32) : Prop :=
  (∃ V, V < n ∧ f V = true ∧ x = nI V ∧ ∀ V2, V2 < n → f V2 = true → pop V < pop V2 ∨ (pop V = pop V2 ∧ V ≤ V2)) ∨ ((∀ V, V < n → f V = false) ∧ x = -9)
theorem isLst.uniq {f : Nat → Bool} {n : Nat} {x y : Int32} (h : isLst f n x) (h2 : isLst f n y) : x = y := by
  rcases h with ⟨V, a1, a2, a3, a4⟩ | ⟨a1, a2⟩
  · rcases h2 with ⟨U, b1, b2, b3, b4⟩ | ⟨b1, b2⟩
    · have q1 := a4 U b1 b2
      have q2 := b4 V a1 a2
      have : V = U := by omega
      rw [a3, b3, this]
    · rw [b1 V a1] at a2; exact absurd a2 (by decide)
  · rcases h2 with ⟨U, b1, b2, b3, b4⟩ | ⟨b1, b2⟩
    · rw [a1 U b1] at b2; exact absurd b2 (by decide)
    · rw [a2, b2]
theorem pop3 : ∀ V, V < 8 → pop V ≤ 3 := by decide +kernel
section TAKES
variable {p : Nat} {c : Nat → Nat → Nat} {rs : Nat → List Nat} {sp : Nat} {us : List (Nat × List Nat × Nat)} {im : Nat → Option ((Nat → List Nat) × Nat)} {ht : List (Nat × Nat)} {bt : Nat → Nat} {n : Nat} {tr : Int64} {w w2 : Wd}
/-- whether a set of pupils has a way -/
def tkW (c : Nat → Nat → Nat) (r : List Nat) (e set : Nat) : Bool := hasW c r e (sos c set)
theorem l_xtakes2 {r : List Nat} {e z : Nat} (hp : scp p) (X : XS p c w) (x5 : w.1 0 5 = nI p) (hc : okc c) (he : e < 1024) (hr : okr (c 0 0) r) (hz : z ≤ 3) : ∀ (m k : Nat) (v1 : Value), m + k = 2 ^ c 0 2 → (∀ V, V < k → pop V = z → tkW c r e V = false) →
    (∃ V, V < 2 ^ c 0 2 ∧ pop V = z ∧ tkW c r e V = true ∧ (∀ V2, V2 < V → pop V2 = z → tkW c r e V2 = false) ∧ runs (T_X8_takes (sem 39)) (52, [.ref 0, v1, .int (nI e), .int (nI (cx r)), .int (nI (2 ^ c 0 2)), .int (nI z), .int (nI k)], [], w) = some (some (.int (nI V)), w)) ∨
    ((∀ V, V < 2 ^ c 0 2 → pop V = z → tkW c r e V = false) ∧ runs (T_X8_takes (sem 39)) (52, [.ref 0, v1, .int (nI e), .int (nI (cx r)), .int (nI (2 ^ c 0 2)), .int (nI z), .int (nI k)], [], w) = runs (T_X8_takes (sem 39)) (43, [.ref 0, .null, .int (nI e), .int (nI (cx r)), .int (nI (2 ^ c 0 2)), .int (nI (z + 1)), .null], [], w)) := by
  have h3 := hc.2.2.1
  have h8 : 2 ^ c 0 2 ≤ 2 ^ 3 := Nat.pow_le_pow_right (by decide) h3
  intro m
  induction m with
  | zero =>
    intro k v1 hk hf
    refine Or.inr ⟨fun V hV hz => hf V (by omega) hz, (p_X8_takes_52T_L43 hp (nI_le (by omega) (by omega))).trans ?_⟩
    rw [nI_1]
  | succ m ih =>
    intro k v1 hk hf
    have g1 : ¬ nI (2 ^ c 0 2) ≤ nI k := nI_ge (by omega) (by omega)
    have e1 := s_bitCount (d := 38) (n := k) (w := w) (by omega)
    have hp3 := pop3 k (by omega)
    by_cases hpz : pop k = z
    · have e2 := s_spellsOfSet (d := 36) (set := k) hp X hc (by omega)
      have e3 := s_hasWay (d := 34) (e := e) (say := sos c k) hp X hc he (sos_lt hc) hr
      cases hw : tkW c r e k with
      | true =>
        have hw' : hasW c r e (sos c k) = true := hw
        rw [b2i_t hw'] at e3
        exact Or.inl ⟨k, by omega, hpz, hw, fun V2 h => hf V2 h, p_X8_takes_52FFF_R hp g1 e1 (by rw [hpz]) x5 x5 e2 e3 (by decide)⟩
      | false =>
        have hw' : hasW c r e (sos c k) = false := hw
        rw [b2i_f hw'] at e3
        have t := p_X8_takes_52FFT_L52 (v1 := v1) hp g1 e1 (by rw [hpz]) x5 x5 e2 e3 rfl
        rw [nI_1] at t
        rcases ih (k + 1) .null (by omega) (fun V hV hz => by
          by_cases e : V = k
          · rw [e]; exact hw
          · exact hf V (by omega) hz) with ⟨V, q1, q2, q3, q4, q5⟩ | ⟨q1, q2⟩
        · exact Or.inl ⟨V, q1, q2, q3, q4, t.trans q5⟩
        · exact Or.inr ⟨q1, t.trans q2⟩
    · have t := p_X8_takes_52FT_L52 (v1 := v1) (x2 := nI e) (x3 := nI (cx r)) hp g1 e1 (x5 := nI z) (fun h => hpz ((nI_eq (by omega) (by omega)).mp h))
      rw [nI_1] at t
      rcases ih (k + 1) .null (by omega) (fun V hV hz => by
        by_cases e : V = k
        · rw [e] at hz; exact absurd hz hpz
        · exact hf V (by omega) hz) with ⟨V, q1, q2, q3, q4, q5⟩ | ⟨q1, q2⟩
      · exact Or.inl ⟨V, q1, q2, q3, q4, t.trans q5⟩
      · exact Or.inr ⟨q1, t.trans q2⟩
theorem l_xtakes1 {r : List Nat} {e : Nat} (hp : scp p) (X : XS p c w) (x5 : w.1 0 5 = nI p) (hc : okc c) (he : e < 1024) (hr : okr (c 0 0) r) : ∀ (m z : Nat) (v1 v6 : Value), m + z = 4 → (∀ V, V < 2 ^ c 0 2 → pop V < z → tkW c r e V = false) →
    ∃ x, isLst (tkW c r e) (2 ^ c 0 2) x ∧ runs (T_X8_takes (sem 39)) (43, [.ref 0, v1, .int (nI e), .int (nI (cx r)), .int (nI (2 ^ c 0 2)), .int (nI z), v6], [], w) = some (some (.int x), w) := by
  have h3 := hc.2.2.1
  have h8 : 2 ^ c 0 2 ≤ 2 ^ 3 := Nat.pow_le_pow_right (by decide) h3
  intro m
  induction m with
  | zero =>
    intro z v1 v6 hz hf
    have ez : z = 4 := by omega
    subst ez
    exact ⟨-9, Or.inr ⟨fun V hV => hf V hV (by have := pop3 V (by omega); omega), rfl⟩, p_X8_takes_43T_R hp (by decide)⟩
  | succ m ih =>
    intro z v1 v6 hz hf
    have t := p_X8_takes_43F_L52 (ex := sem 39) (v1 := v1) (v6 := v6) (x2 := nI e) (x3 := nI (cx r)) (x4 := nI (2 ^ c 0 2)) (x5 := nI z) (w := w) hp (nI_nlt (a := 3) (b := z) (by omega) (by decide))
    rcases l_xtakes2 (r := r) (e := e) (z := z) hp X x5 hc he hr (by omega) (2 ^ c 0 2) 0 .null (by omega) (fun V h => absurd h (Nat.not_lt_zero _)) with ⟨V, q1, q2, q3, q4, q5⟩ | ⟨q1, q2⟩
    · refine ⟨nI V, Or.inl ⟨V, q1, q3, rfl, fun V2 h1 h2 => ?_⟩, t.trans q5⟩
      rcases Nat.lt_or_ge (pop V2) z with h | h
      · rw [hf V2 h1 h] at h2; exact absurd h2 (by decide)
      · by_cases hz2 : pop V2 = z
        · refine Or.inr ⟨by omega, ?_⟩
          rcases Nat.lt_or_ge V2 V with h3 | h3
          · rw [q4 V2 h3 hz2] at h2; exact absurd h2 (by decide)
          · exact h3
        · exact Or.inl (by omega)
    · obtain ⟨x, x1, x2⟩ := ih (z + 1) .null .null (by omega) (fun V hV hp => by
        by_cases hz2 : pop V = z
        · exact q1 V hV hz2
        · exact hf V hV (by omega))
      exact ⟨x, x1, t.trans (q2.trans x2)⟩
/-- the best so far -/
def lsI (f : Nat → Bool) (k : Nat) (x : Int32) : Prop :=
  (∃ V, V < k ∧ f V = true ∧ x = nI V ∧ ∀ V2, V2 < k → f V2 = true → pop V < pop V2 ∨ (pop V = pop V2 ∧ V ≤ V2)) ∨ ((∀ V, V < k → f V = false) ∧ x = -9)
theorem l_mtakes {e t : Nat} (hc : okc c) (he : e < 1024) (ht4 : t < 4) (hr : okr (c 0 0) (rs t)) : ∀ (m k : Nat) (x : Int32) (w : Wd), m + k = 2 ^ c 0 2 → MR c rs sp us im ht bt n tr w → lsI (tkW c (rs t) e) k x →
    ∃ y w2, runs (T_X9_takes_ (sem 39)) (32, [.ref 34, .int (nI t), .int (nI e), .int x, .int (nI k)], [], w) = some (some (.int y), w2) ∧ isLst (tkW c (rs t) e) (2 ^ c 0 2) y ∧ mch w w2 ∧ MCa c w2 := by
  have h3 := hc.2.2.1
  have h8 : 2 ^ c 0 2 ≤ 2 ^ 3 := Nat.pow_le_pow_right (by decide) h3
  have hr5 := hr.five hc
  have hcr := cm_lt hr5
  have hv : vp_in (nI t) 5 := vp_in_nI (by omega) (by decide)
  intro m
  induction m with
  | zero =>
    intro k x w hk M L
    have ek : k = 2 ^ c 0 2 := by omega
    subst ek
    exact ⟨x, w, p_X9_takes__32T_R (by rw [M.1.2.2.1, i_pow (by omega)]; exact nI_le (Nat.le_refl _) (by omega)), L, mch.refl w, M.2.2.2.2.2.2.2.1⟩
  | succ m ih =>
    intro k x w hk M L
    have g1 : ¬ ((1 : Int32) <<< ((w.1 34 15) &&& 31)) ≤ nI k := by rw [M.1.2.2.1, i_pow (by omega)]; exact nI_ge (by omega) (by omega)
    have e1 := m_ones (d := 38) (V := k) (w := w) (by omega)
    -- a sweep tells whether there is a way
    have sw : ∃ W w2, sem 39 175 [.ref 34, .int (nI e), .int (nI k)] w = some (none, w2) ∧ mch w w2 ∧ MCa c w2 ∧ MR c rs sp us im ht bt n tr w2 ∧ w2.1 40 (nI t).toNatClampNeg = nI (cm (rs t)) ∧ w2.1 46 (nI (cm (rs t))).toNatClampNeg = nI W ∧ W ≤ 1000000 ∧ (W < 1000000 ↔ tkW c (rs t) e k = true) := by
      obtain ⟨W, w2, c1, c2, c3, c4, c5⟩ := m_sweeps (d := 34) (e := e) hc (show k < 2 ^ 31 by omega) he M.1 M.2.2.2.2.2.2.2.1 M.2.2.2.2.2.2.2.2.1
      have M2 := M.mch c2.mch c3
      refine ⟨W (cm (rs t)), w2, c1, c2.mch, c3, M2, cel40 M2 ht4, by rw [nI_clamp (by omega)]; exact (c4 _ hcr).2, (c4 _ hcr).1, ?_⟩
      have hi := hasW_iff (set := k) (e := e) hc hr
      rcases c5.isD hc hr with ⟨k1, k2⟩ | ⟨k1, k2⟩
      · obtain ⟨ys, y1, _⟩ := k2.1
        exact ⟨fun _ => hi.mpr ⟨ys, y1⟩, fun _ => k1⟩
      · exact ⟨fun h => by rw [k1] at h; exact absurd h (by decide), fun h => by obtain ⟨ys, y1⟩ := hi.mp h; exact absurd y1 (k2 ys)⟩
    obtain ⟨W, w2, c1, c2, c3, c4, c5, c6, c7, c8⟩ := sw
    have hvq : vp_in (w2.1 40 (nI t).toNatClampNeg) 7776 := by rw [c5]; exact vp_in_nI hcr (by decide)
    have far0 : (1000000 : Int32) ≤ w2.1 46 ((w2.1 40 (nI t).toNatClampNeg).toNatClampNeg) ↔ ¬ W < 1000000 := by
      rw [c5, c6]
      constructor
      · intro h g; exact nI_ge (b := 1000000) g (by decide) h
      · intro h; exact nI_le (a := 1000000) (by omega) (by omega)
    have nxt : ∀ (y : Int32) (w0 : Wd), mch w w0 → MCa c w0 → MR c rs sp us im ht bt n tr w0 → lsI (tkW c (rs t) e) (k + 1) y → runs (T_X9_takes_ (sem 39)) (32, [.ref 34, .int (nI t), .int (nI e), .int x, .int (nI k)], [], w) = runs (T_X9_takes_ (sem 39)) (32, [.ref 34, .int (nI t), .int (nI e), .int y, .int (nI k + 1)], [], w0) →
        ∃ y w2, runs (T_X9_takes_ (sem 39)) (32, [.ref 34, .int (nI t), .int (nI e), .int x, .int (nI k)], [], w) = some (some (.int y), w2) ∧ isLst (tkW c (rs t) e) (2 ^ c 0 2) y ∧ mch w w2 ∧ MCa c w2 := by
      intro y w0 f0 _ M0 L0 e0
      obtain ⟨z, w3, q1, q2, q3, q4⟩ := ih (k + 1) y w0 (by omega) M0 L0
      rw [nI_1] at e0
      exact ⟨z, w3, e0.trans q1, q2, f0.trans q3, q4⟩
    rcases L with ⟨B, b1, b2, b3, b4⟩ | ⟨b1, b2⟩
    · subst b3
      have n9 : ¬ nI B = -9 := fun h => by
        have := nI_pos (n := B) (by omega)
        rw [h] at this
        exact this (by decide)
      have e2 := m_ones (d := 38) (V := B) (w := w) (by omega)
      have pk := pop3 k (by omega)
      have pB := pop3 B (by omega)
      by_cases hlt : pop k < pop B
      · have g2 : ¬ nI (pop B) ≤ nI (pop k) := nI_ge hlt (by omega)
        cases hw : tkW c (rs t) e k with
        | true =>
          have hW := c8.mpr hw
          refine nxt (nI k) w2 c2 c3 c4 (Or.inl ⟨k, by omega, hw, rfl, fun V2 h1 h2 => ?_⟩) (p_X9_takes__32FFFF_L32 g1 n9 e1 e2 g2 c1 hv hvq (fun h => far0.mp h hW))
          by_cases e : V2 = k
          · exact Or.inr ⟨by rw [e], by omega⟩
          · have := b4 V2 (by omega) h2
            omega
        | false =>
          have hW : ¬ W < 1000000 := fun h => by rw [c8.mp h] at hw; exact absurd hw (by decide)
          refine nxt (nI B) w2 c2 c3 c4 (Or.inl ⟨B, by omega, b2, rfl, fun V2 h1 h2 => ?_⟩) (p_X9_takes__32FFFT_L32 g1 n9 e1 e2 g2 c1 hv hvq (far0.mpr hW))
          by_cases e : V2 = k
          · rw [e, hw] at h2; exact absurd h2 (by decide)
          · exact b4 V2 (by omega) h2
      · refine nxt (nI B) w (mch.refl w) M.2.2.2.2.2.2.2.1 M (Or.inl ⟨B, by omega, b2, rfl, fun V2 h1 h2 => ?_⟩) (p_X9_takes__32FFT_L32 g1 n9 e1 e2 (nI_le (by omega) (by omega)))
        by_cases e : V2 = k
        · rw [e]; omega
        · exact b4 V2 (by omega) h2
    · subst b2
      cases hw : tkW c (rs t) e k with
      | true =>
        have hW := c8.mpr hw
        refine nxt (nI k) w2 c2 c3 c4 (Or.inl ⟨k, by omega, hw, rfl, fun V2 h1 h2 => ?_⟩) (p_X9_takes__32FTF_L32 g1 rfl c1 hv hvq (fun h => far0.mp h hW))
        by_cases e : V2 = k
        · exact Or.inr ⟨by rw [e], by omega⟩
        · rw [b1 V2 (by omega)] at h2; exact absurd h2 (by decide)
      | false =>
        have hW : ¬ W < 1000000 := fun h => by rw [c8.mp h] at hw; exact absurd hw (by decide)
        refine nxt (-9) w2 c2 c3 c4 (Or.inr ⟨fun V2 h1 => ?_, rfl⟩) (p_X9_takes__32FTT_L32 g1 rfl c1 hv hvq (far0.mpr hW))
        by_cases e : V2 = k
        · rw [e]; exact hw
        · exact b1 V2 (by omega)
theorem agr_takes {x1 x2 : Int32} (J : Jn w) : agr 116 177 [.ref 0, .int x1, .int x2] [.ref 34, .int x1, .int x2] w := by
  obtain ⟨p, c, rs, sp, us, im, ht, bt, n, tr, hp, ok, X, M⟩ := J
  have hc := ok.1
  have h4 := hc.2.1
  have h3 := hc.2.2.1
  have X1 := X.1
  have x5 := X.2.2.2.2.2.1
  rcases in_cs (x := x1) (N := c 0 1) (by omega) with ⟨t, ht1, rfl⟩ | h1
  · have a1 := x_isThing1 (d := 38) hp X1 hc ht1
    have b1 := fun w' (M' : MR c rs sp us im ht bt n tr w') => m_isThing1 (d := 37) M'.thr.1 hc ht1
    rcases in_cs (x := x2) (N := 1024) (by decide) with ⟨e, he, rfl⟩ | h2
    · have a2 := x_eff1 (w := w) (d := 38) he
      have b2 := fun w' => m_inL1 (w := updI w' 34 0 0) (d := 38) (N := 1024) (hi := 1023) (by decide) (by decide) he
      have hr := ok.2.1.1 t (by omega)
      have a3 := s_rowOf (d := 37) X.2.1.1 (t := t) (by omega)
      have a4 := x_pupils (d := 38) hp X1
      obtain ⟨x, l1, l2⟩ := l_xtakes1 (r := rs t) (e := e) hp X1 x5 hc he hr 4 0 (.int (nI t)) .null (by omega) (fun V _ h => absurd h (Nat.not_lt_zero _))
      have t1 := p_X8_takes_0FT_L43 hp x5 a1 (by decide) a2 (by decide) a3 x5 a4
      rw [i_pow (show c 0 2 < 31 by omega)] at t1
      refine agr_q hp ok X M (e_X8_takes.trans (t1.trans l2)) (xch.refl w) (fun w' M' => ?_)
      obtain ⟨y, w3, c1, c2, c3, c4⟩ := l_mtakes (e := e) (t := t) hc he (by omega) hr (2 ^ c 0 2) 0 (-9) (updI w' 34 0 0) (by omega) M'.thr (Or.inr ⟨fun V h => absurd h (Nat.not_lt_zero _), rfl⟩)
      rw [l1.uniq c2]
      exact ⟨w3, e_X9_takes_.trans ((p_X9_takes__0FT_L32 (b1 w' M') (by decide) (b2 w') (by decide)).trans c1), (mch.thr w').trans c3, c4⟩
    · exact agr_q hp ok X M (v := -1) (e_X8_takes.trans (p_X8_takes_0FF_R hp x5 a1 (by decide) (x_eff0 (d := 38) h2) rfl)) (xch.refl w)
        (fun w' M' => ⟨_, e_X9_takes_.trans (p_X9_takes__0FF_R (b1 w' M') (by decide) (m_inL0 (d := 38) (N := 1024) (by decide) (by decide) h2) rfl), mch.thr w', M'.2.2.2.2.2.2.2.1.thr⟩)
  · exact agr_q hp ok X M (v := -1) (e_X8_takes.trans (p_X8_takes_0T_R hp x5 (x_isThing0 (d := 38) hp X1 hc h1) rfl)) (xch.refl w)
      (fun w' M' => ⟨_, e_X9_takes_.trans (p_X9_takes__0T_R (m_isThing0 (d := 37) M'.thr.1 hc h1) rfl), mch.thr w', M'.2.2.2.2.2.2.2.1.thr⟩)
end TAKES

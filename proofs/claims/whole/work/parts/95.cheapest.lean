/-! cheapest, takes agree -/
section CHEAPEST
variable {p : Nat} {c : Nat → Nat → Nat} {rs : Nat → List Nat} {sp : Nat} {us : List (Nat × List Nat × Nat)} {im : Nat → Option ((Nat → List Nat) × Nat)} {ht : List (Nat × Nat)} {bt : Nat → Nat} {n : Nat} {tr : Int64} {w w2 : Wd}
theorem x_pset1 {d s : Nat} (hp : scp p) (X : XS p c w) (hc : okc c) (hs : s < 2 ^ c 0 2) : sem (d + 1) 62 [.ref p, .int (nI s)] w = some (some (.int 1), w) := by
  have h3 := hc.2.2.1
  have h8 : 2 ^ c 0 2 ≤ 2 ^ 3 := Nat.pow_le_pow_right (by decide) h3
  exact e_X5_isPupilSet.trans (p_X5_isPupilSet_0FF_R hp (nI_pos (by omega)) (by rw [X.2.2.1, i_pow (by omega)]; exact nI_ge hs (by omega)))
theorem x_pset0 {d : Nat} {x : Int32} (hp : scp p) (X : XS p c w) (hc : okc c) (h : ¬ (¬ x < 0 ∧ x < nI (2 ^ c 0 2))) : sem (d + 1) 62 [.ref p, .int x] w = some (some (.int 0), w) := by
  have h3 := hc.2.2.1
  rcases out_cs h with h | ⟨h1, h2⟩
  · exact e_X5_isPupilSet.trans (p_X5_isPupilSet_0T_R hp h)
  · exact e_X5_isPupilSet.trans (p_X5_isPupilSet_0FT_R hp h1 (by rw [X.2.2.1, i_pow (by omega)]; exact h2))
theorem hasW_iff (hc : okc c) {set e : Nat} {r : List Nat} (hr : okr (c 0 0) r) : hasW c r e (sos c set) = true ↔ ∃ xs, leads c set e xs r := ⟨of_hasW hc hr, fun ⟨_, h⟩ => hasW_of hc hr h⟩
theorem cel40 (M : MR c rs sp us im ht bt n tr w) {t : Nat} (ht4 : t < 4) : w.1 40 (nI t).toNatClampNeg = nI (cm (rs t)) := by
  rw [nI_clamp (by omega)]
  exact M.2.1.1 t ht4
/-- the reference's search for the first word -/
theorem l_first {W : Nat → Nat} {set t h d : Nat} {x5 : Nat} (hc : okc c) (hs : set < 2 ^ 31) (ht4 : t < 4) (hr : okr (c 0 0) (rs t)) (h6 : h ≤ 6) (hx : 0 < x5 ∧ x5 < 2 ^ 31)
    (hyes : ∃ q, af c set (rs t) h = some q ∧ W (cm q) < 1000000 ∧ W (cm q) + (1000 * cst c (rs t) h + 1) = x5)
    (hno : ∀ x q, x ≤ 6 → af c set (rs t) x = some q → W (cm q) < 1000000 → W (cm q) + (1000 * cst c (rs t) x + 1) = x5 → h ≤ x) :
    ∀ (m k : Nat) (v2 v4 v7 : Value) (w : Wd), m + k = h → MR c rs sp us im ht bt n tr w → MW W w → ∃ w2, runs (T_X9_cheapest (sem (d + 3))) (96, [.ref 34, .int (nI t), v2, .int (nI set), v4, .int (nI x5), .int (nI k), v7], [], w) = some (some (.int (nI h)), w2) ∧ mch w w2 ∧ MCa c w2 := by
  have hr5 := hr.five hc
  have hv : vp_in (nI t) 5 := vp_in_nI (by omega) (by decide)
  have g5 : ¬ nI x5 ≤ 0 := nI_nle hx.1 hx.2
  intro m
  induction m with
  | zero =>
    intro k v2 v4 v7 w hk M H
    have ek : k = h := by omega
    subst ek
    obtain ⟨q, q1, q2, q3⟩ := hyes
    have hcq := cm_lt ((af_ok hr (by omega) q1).five hc)
    obtain ⟨w2, g1, g2, g3⟩ := m_said (d := d) (x := k) M.1 hc M.2.2.2.2.2.2.2.1 hr hs h6
    rw [q1, ← cel40 M ht4] at g1
    have M2 := M.mch g2.mch g3
    have H2 := H.cch g2
    obtain ⟨y1, y2⟩ := H2 (cm q) hcq
    have e3 : ¬ mo (some q) = -9 := fun h => by
      have h1 : nI (cm q) = -9 := h
      have := nI_pos (n := cm q) (by omega)
      rw [h1] at this
      exact this (by decide)
    have hvq : vp_in (mo (some q)) 7776 := vp_in_nI hcq (by decide)
    have e4 : w2.1 46 (mo (some q)).toNatClampNeg = nI (W (cm q)) := by
      show w2.1 46 (nI (cm q)).toNatClampNeg = _
      rw [nI_clamp (by omega), y2]
    have e6 := m_costOf (d := d + 1) M2.1 hc hr h6 q1
    rw [← cel40 M2 ht4] at e6
    exact ⟨w2, p_X9_cheapest_96FFFFF_R (nI_nlt (a := 6) (b := k) h6 (by decide)) g5 hv g1 e3 hvq (by rw [e4]; exact nI_ge (b := 1000000) q2 (by decide)) hvq hv e6 (by rw [e4, nI_add, q3]), g2.mch, g3⟩
  | succ m ih =>
    intro k v2 v4 v7 w hk M H
    have k6 : ¬ (6 : Int32) < nI k := nI_nlt (a := 6) (b := k) (by omega) (by decide)
    obtain ⟨w2, g1, g2, g3⟩ := m_said (d := d) (x := k) M.1 hc M.2.2.2.2.2.2.2.1 hr hs (by omega)
    rw [← cel40 M ht4] at g1
    have M2 := M.mch g2.mch g3
    have H2 := H.cch g2
    obtain ⟨w3, f1, f2, f3⟩ := ih (k + 1) .null .null .null w2 (by omega) M2 H2
    have nx : runs (T_X9_cheapest (sem (d + 3))) (96, [.ref 34, .int (nI t), v2, .int (nI set), v4, .int (nI x5), .int (nI k), v7], [], w) = runs (T_X9_cheapest (sem (d + 3))) (96, [.ref 34, .int (nI t), .null, .int (nI set), .null, .int (nI x5), .int (nI k + 1), .null], [], w2) → ∃ w2, runs (T_X9_cheapest (sem (d + 3))) (96, [.ref 34, .int (nI t), v2, .int (nI set), v4, .int (nI x5), .int (nI k), v7], [], w) = some (some (.int (nI h)), w2) ∧ mch w w2 ∧ MCa c w2 := fun e => by
      rw [nI_1] at e
      exact ⟨w3, e.trans f1, g2.mch.trans f2, f3⟩
    cases ha : af c set (rs t) k with
    | none =>
      rw [ha] at g1
      exact nx (p_X9_cheapest_96FFT_L96 k6 g5 hv g1 rfl)
    | some q =>
      rw [ha] at g1
      have hcq := cm_lt ((af_ok hr (by omega) ha).five hc)
      obtain ⟨y1, y2⟩ := H2 (cm q) hcq
      have e3 : ¬ mo (some q) = -9 := fun h => by
        have h1 : nI (cm q) = -9 := h
        have := nI_pos (n := cm q) (by omega)
        rw [h1] at this
        exact this (by decide)
      have hvq : vp_in (mo (some q)) 7776 := vp_in_nI hcq (by decide)
      have e4 : w2.1 46 (mo (some q)).toNatClampNeg = nI (W (cm q)) := by
        show w2.1 46 (nI (cm q)).toNatClampNeg = _
        rw [nI_clamp (by omega), y2]
      have k9 := cst_le hc hr (by omega) ha
      by_cases hf : W (cm q) < 1000000
      · have e6 := m_costOf (d := d + 1) M2.1 hc hr (by omega) ha
        rw [← cel40 M2 ht4] at e6
        refine nx (p_X9_cheapest_96FFFFT_L96 k6 g5 hv g1 e3 hvq (by rw [e4]; exact nI_ge (b := 1000000) hf (by decide)) hvq hv e6 ?_)
        rw [e4, nI_add]
        intro g
        have := hno k q (by omega) ha hf ((nI_eq (by omega) hx.2).mp g)
        omega
      · exact nx (p_X9_cheapest_96FFFT_L96 k6 g5 hv g1 e3 hvq (by rw [e4]; exact nI_le (a := 1000000) (by omega) (by omega)))
theorem agr_cheapest {x1 x2 x3 x4 : Int32} (J : Jn w) : agr 115 176 [.ref 0, .int x1, .int x2, .int x3, .int x4] [.ref 34, .int x1, .int x2, .int x3, .int x4] w := by
  obtain ⟨p, c, rs, sp, us, im, ht, bt, n, tr, hp, ok, X, M⟩ := J
  have hc := ok.1
  have h4 := hc.2.1
  have h3 := hc.2.2.1
  have h8 : 2 ^ c 0 2 ≤ 2 ^ 3 := Nat.pow_le_pow_right (by decide) h3
  have X1 := X.1
  have x5 := X.2.2.2.2.2.1
  rcases in_cs (x := x1) (N := c 0 1) (by omega) with ⟨t, ht1, rfl⟩ | h1
  · have a1 := x_isThing1 (d := 38) hp X1 hc ht1
    have b1 := fun w' (M' : MR c rs sp us im ht bt n tr w') => m_isThing1 (d := 37) M'.thr.1 hc ht1
    rcases in_cs (x := x2) (N := 1024) (by decide) with ⟨e, he, rfl⟩ | h2
    · have a2 := x_eff1 (w := w) (d := 38) he
      have b2 := fun w' => m_inL1 (w := updI w' 34 0 0) (d := 38) (N := 1024) (hi := 1023) (by decide) (by decide) he
      have es : ∀ w', MR c rs sp us im ht bt n tr w' → ((1 : Int32) <<< ((updI w' 34 0 0).1 34 15 &&& 31)) - 1 = nI (2 ^ c 0 2) - 1 := fun w' M' => by
        rw [M'.thr.1.2.2.1, i_pow (by omega)]
      rcases in_cs (x := x3) (N := 2 ^ c 0 2) (by omega) with ⟨set, hset, rfl⟩ | h3
      · have a3 := x_pset1 (d := 38) hp X1 hc hset
        have b3 : ∀ w', MR c rs sp us im ht bt n tr w' → sem 39 135 [.int (nI set), .int 0, .int (((1 : Int32) <<< ((updI w' 34 0 0).1 34 15 &&& 31)) - 1)] (updI w' 34 0 0) = some (some (.int 1), updI w' 34 0 0) := fun w' M' => by
          rw [es w' M']; exact m_inL1 (d := 38) (N := 2 ^ c 0 2) (by omega) rfl hset
        rcases in_cs (x := x4) (N := 2) (by decide) with ⟨k, hk, rfl⟩ | h4
        · have a4 := x_yn1 (w := w) (d := 38) hk
          have b4 := fun w' => m_inL1 (w := updI w' 34 0 0) (d := 38) (N := 2) (hi := 1) (by decide) (by decide) hk
          have hr := ok.2.1.1 t (by omega)
          have hr5 := hr.five hc
          have hcr := cm_lt hr5
          have a5 := s_rowOf (d := 37) X.2.1.1 (t := t) (by omega)
          have a6 := s_spellsOfSet (d := 36) (set := set) hp X1 hc (by omega)
          have a7 := s_hasWay (d := 34) (e := e) (say := sos c set) hp X1 hc he (sos_lt hc) hr
          have hv : vp_in (nI t) 5 := vp_in_nI (by omega) (by decide)
          -- the reference's sweeps
          have sw : ∀ w', MR c rs sp us im ht bt n tr w' → ∃ W w2, sem 39 175 [.ref 34, .int (nI e), .int (nI set)] (updI w' 34 0 0) = some (none, w2) ∧ wch (updI w' 34 0 0) w2 ∧ MCa c w2 ∧ MW W w2 ∧ fixt c set e (fun r => W (cm r)) ∧ MR c rs sp us im ht bt n tr w2 ∧ w2.1 40 (nI t).toNatClampNeg = nI (cm (rs t)) ∧ w2.1 46 (nI (cm (rs t))).toNatClampNeg = nI (W (cm (rs t))) := fun w' M' => by
            obtain ⟨W, w2, c1, c2, c3, c4, c5⟩ := m_sweeps (d := 34) (e := e) hc (show set < 2 ^ 31 by omega) he M'.thr.1 M'.thr.2.2.2.2.2.2.2.1 M'.thr.2.2.2.2.2.2.2.2.1
            have M2 := M'.thr.mch c2.mch c3
            exact ⟨W, w2, c1, c2, c3, c4, c5, M2, cel40 M2 (by omega), by rw [nI_clamp (by omega)]; exact (c4 _ hcr).2⟩
          by_cases hw : hasW c (rs t) e (sos c set) = true
          · rw [b2i_t hw] at a7
            obtain ⟨xs, w2, a8, a9, hl, hm⟩ := s_nearest (d := 33) (e := e) hp X1 hc (show set < 2 ^ 31 by omega) he hr ((hasW_iff hc hr).mp hw)
            have fx : xch w w2 := fun q hq => a9 q (by omega)
            obtain ⟨W0, _, _, _, _, _, f0, _⟩ := sw w M
            obtain ⟨n1, n2, n3, n4⟩ := cheap_nums hc f0 hr hl hm
            have a5' : w.1 0 5 = nI p := x5
            have hfar : wX c set xs (rs t) < 1073741824 := n4
            have nf : ¬ nI (wX c set xs (rs t)) = 1073741824 := fun h => by
              have := (nI_eq (b := 1073741824) (by omega) (by decide)).mp h
              omega
            have ed : nI (wX c set xs (rs t)) / 65536 = nI (wX c set xs (rs t) / 65536) := pk_div (d := 65536) (by omega) (by decide) (by decide)
            have em : nI (wX c set xs (rs t)) - nI (wX c set xs (rs t)) / 65536 * 65536 = nI (wX c set xs (rs t) % 65536) := pk_rem (d := 65536) (by omega) (by decide) (by decide)
            have e8 : nI (wX c set xs (rs t)) - nI (wX c set xs (rs t)) / 8 * 8 = nI (wX c set xs (rs t) % 8) := pk_rem (d := 8) (by omega) (by decide) (by decide)
            rcases (by omega : k = 0 ∨ k = 1) with rfl | rfl
            · have a10 : sem 39 81 [.int (nI (wX c set xs (rs t)))] w2 = some (some (.int (nI (wX c set xs (rs t) / 65536))), w2) := by
                have := e_X6_costOf (d := 38) (x0 := nI (wX c set xs (rs t))) (w := w2)
                rw [p_X6_costOf_0_R, ed] at this
                exact this
              refine agr_q hp ok X M (e_X8_cheapest.trans (p_X8_cheapest_0FFFTTTF_R hp x5 a1 (by decide) a2 (by decide) x5 a3 (by decide) a4 (by decide) a5 x5 x5 a6 a7 (by decide) x5 a8 nf rfl a10)) fx (fun w' M' => ?_)
              obtain ⟨W, w3, c1, c2, c3, c4, c5, c6, c7, c8⟩ := sw w' M'
              obtain ⟨m1, m2, m3, m4⟩ := cheap_nums hc c5 hr hl hm
              have hW := (cheap_same hc c5 hr hl hm).1
              have t1 := p_X9_cheapest_0FFFTTF_R (x4 := nI 0) (b1 w' M') (by decide) (b2 w') (by decide) (b3 w' M') (by decide) (b4 w') (by decide) c1 hv (by rw [c7]; exact vp_in_nI hcr (by decide)) (by
                rw [c7, c8]
                exact fun h => by
                  have := (nI_eq (b := 1000000) (by omega) (by decide)).mp h
                  omega) rfl
              rw [c7, c8, show nI (W (cm (rs t))) / 1000 = nI (W (cm (rs t)) / 1000) from pk_div (d := 1000) (by omega) (by decide) (by decide), ← m1] at t1
              exact ⟨w3, e_X9_cheapest.trans t1, (mch.thr w').trans c2.mch, c3⟩
            · have first : ∃ v, sem 39 82 [.int (nI (wX c set xs (rs t)))] w2 = some (some (.int v), w2) ∧ v = if wX c set xs (rs t) % 65536 < 8 then -5 else nI (xs.headD 0) := by
                by_cases hs8 : wX c set xs (rs t) % 65536 < 8
                · refine ⟨-5, e_X6_firstOf.trans (p_X6_firstOf_0F_R (by rw [em]; exact nI_ge (b := 8) hs8 (by decide))), ?_⟩
                  rw [if_pos hs8]
                · refine ⟨nI (xs.headD 0), ?_, ?_⟩
                  · have t1 := p_X6_firstOf_0T_R (ex := sem 38) (x0 := nI (wX c set xs (rs t))) (w := w2) (by rw [em]; exact nI_le (a := 8) (by omega) (by omega))
                    rw [e8, n3 hs8] at t1
                    exact e_X6_firstOf.trans t1
                  · rw [if_neg hs8]
              obtain ⟨v, a10, hvv⟩ := first
              refine agr_q hp ok X M (e_X8_cheapest.trans (p_X8_cheapest_0FFFTTTT_R hp x5 a1 (by decide) a2 (by decide) x5 a3 (by decide) a4 (by decide) a5 x5 x5 a6 a7 (by decide) x5 a8 nf (by decide) a10)) fx (fun w' M' => ?_)
              obtain ⟨W, w3, c1, c2, c3, c4, c5, c6, c7, c8⟩ := sw w' M'
              obtain ⟨m1, m2, m3, m4⟩ := cheap_nums hc c5 hr hl hm
              have hW := (cheap_same hc c5 hr hl hm).1
              have t1 := p_X9_cheapest_0FFFTTT_L96 (x4 := nI 1) (b1 w' M') (by decide) (b2 w') (by decide) (b3 w' M') (by decide) (b4 w') (by decide) c1 hv (by rw [c7]; exact vp_in_nI hcr (by decide)) (by
                rw [c7, c8]
                exact fun h => by
                  have := (nI_eq (b := 1000000) (by omega) (by decide)).mp h
                  omega) (by decide)
              rw [c7, c8] at t1
              by_cases hz : W (cm (rs t)) = 0
              · rw [hvv, if_pos (m2.mpr hz)]
                refine ⟨w3, e_X9_cheapest.trans (t1.trans (p_X9_cheapest_96FT_R (by decide) (by rw [hz]; decide))), (mch.thr w').trans c2.mch, c3⟩
              · rw [hvv, if_neg (fun h => hz (m2.mp h))]
                obtain ⟨⟨q, f1, f2, f3, f4⟩, f5⟩ := cheap_first hc c5 hr hl hm hz
                obtain ⟨w4, g1, g2, g3⟩ := l_first (d := 36) (W := W) (x5 := W (cm (rs t))) hc (show set < 2 ^ 31 by omega) (t := t) (by omega) hr f1 ⟨by omega, by omega⟩ ⟨q, f2, f3, f4⟩ f5 (xs.headD 0) 0 .null .null .null w3 (by omega) c6 c4
                exact ⟨w4, e_X9_cheapest.trans (t1.trans g1), ((mch.thr w').trans c2.mch).trans g2, g3⟩
          · have hwf : hasW c (rs t) e (sos c set) = false := by
              cases h : hasW c (rs t) e (sos c set) with
              | true => exact absurd h hw
              | false => rfl
            rw [b2i_f hwf] at a7
            refine agr_q hp ok X M (v := -9) (e_X8_cheapest.trans (p_X8_cheapest_0FFFTF_R hp x5 a1 (by decide) a2 (by decide) x5 a3 (by decide) a4 (by decide) a5 x5 x5 a6 a7 rfl)) (xch.refl w) (fun w' M' => ?_)
            obtain ⟨W, w3, c1, c2, c3, c4, c5, c6, c7, c8⟩ := sw w' M'
            have hW : W (cm (rs t)) = 1000000 := by
              rcases c5.isD hc hr with ⟨k1, k2⟩ | ⟨k1, k2⟩
              · obtain ⟨ys, y1, _⟩ := k2.1
                exact absurd ((hasW_iff hc hr).mpr ⟨ys, y1⟩) hw
              · exact k1
            exact ⟨w3, e_X9_cheapest.trans (p_X9_cheapest_0FFFTF_R (b1 w' M') (by decide) (b2 w') (by decide) (b3 w' M') (by decide) (b4 w') (by decide) c1 hv (by rw [c7]; exact vp_in_nI hcr (by decide)) (by rw [c7, c8, hW]; rfl)), (mch.thr w').trans c2.mch, c3⟩
        · exact agr_q hp ok X M (v := -1) (e_X8_cheapest.trans (p_X8_cheapest_0FFFF_R hp x5 a1 (by decide) a2 (by decide) x5 a3 (by decide) (x_yn0 (d := 38) h4) rfl)) (xch.refl w)
            (fun w' M' => ⟨_, e_X9_cheapest.trans (p_X9_cheapest_0FFFF_R (b1 w' M') (by decide) (b2 w') (by decide) (b3 w' M') (by decide) (m_inL0 (d := 38) (N := 2) (by decide) (by decide) h4) rfl), mch.thr w', M'.2.2.2.2.2.2.2.1.thr⟩)
      · exact agr_q hp ok X M (v := -1) (e_X8_cheapest.trans (p_X8_cheapest_0FFT_R hp x5 a1 (by decide) a2 (by decide) x5 (x_pset0 (d := 38) hp X1 hc h3) rfl)) (xch.refl w)
          (fun w' M' => ⟨_, e_X9_cheapest.trans (p_X9_cheapest_0FFT_R (b1 w' M') (by decide) (b2 w') (by decide) (by rw [es w' M']; exact m_inL0 (d := 38) (N := 2 ^ c 0 2) (by omega) rfl h3) rfl), mch.thr w', M'.2.2.2.2.2.2.2.1.thr⟩)
    · exact agr_q hp ok X M (v := -1) (e_X8_cheapest.trans (p_X8_cheapest_0FT_R hp x5 a1 (by decide) (x_eff0 (d := 38) h2) rfl)) (xch.refl w)
        (fun w' M' => ⟨_, e_X9_cheapest.trans (p_X9_cheapest_0FT_R (b1 w' M') (by decide) (m_inL0 (d := 38) (N := 1024) (by decide) (by decide) h2) rfl), mch.thr w', M'.2.2.2.2.2.2.2.1.thr⟩)
  · exact agr_q hp ok X M (v := -1) (e_X8_cheapest.trans (p_X8_cheapest_0T_R hp x5 (x_isThing0 (d := 38) hp X1 hc h1) rfl)) (xch.refl w)
      (fun w' M' => ⟨_, e_X9_cheapest.trans (p_X9_cheapest_0T_R (m_isThing0 (d := 37) M'.thr.1 hc h1) rfl), mch.thr w', M'.2.2.2.2.2.2.2.1.thr⟩)
end CHEAPEST

/-! what only asks: spell, thing, layer, pupil, count, trace, now -/
section SIMPLE
variable {w : Wd}
theorem agr_spell {x1 x2 : Int32} (J : Jn w) : agr 105 154 [.ref 0, .int x1, .int x2] [.ref 34, .int x1, .int x2] w := by
  obtain ⟨p, c, rs, sp, us, im, ht, bt, n, tr, hp, ok, X, M⟩ := J
  have hc := ok.1
  have h5 := hc.1
  have X1 := X.1
  have x5 := X.2.2.2.2.2.1
  rcases in_cs (x := x1) (N := c 0 0) (by omega) with ⟨s, hs, rfl⟩ | h1
  · have e1 := x_isSpell1 (d := 38) hp X1 hc hs
    rcases in_cs (x := x2) (N := 4) (by decide) with ⟨k, hk, rfl⟩ | h2
    · have hm : ∀ w', MR c rs sp us im ht bt n tr w' → ∃ w3, sem 40 154 [.ref 34, .int (nI s), .int (nI k)] w' = some (some (.int (nI (c (k + 1) s))), w3) ∧ mch w' w3 ∧ MCa c w3 := fun w' M' => by
        have M1 := M'.thr
        have e4 : 4 * nI s + nI k = nI (4 * s + k) := by
          have k1 : nI s * 4 = nI (s * 4) := pk_mul s 4
          rw [Int32.mul_comm, k1, nI_add, Nat.mul_comm]
        have t := p_X9_spell_0FF_R (ex := sem 39) (x2 := nI k) (m_isSpell1 (d := 37) M1.1 hc hs) (by decide) (m_inL1 (d := 38) (N := 4) (by decide) (by decide) hk) (by decide) (by rw [e4]; exact vp_in_nI (by omega) (by decide))
        rw [e4, nI_clamp (by omega)] at t
        obtain ⟨q0, q1, q2, q3⟩ := M1.1.2.2.2.2.2.2.1 s hs
        have ev : (updI w' 34 0 0).1 36 (4 * s + k) = nI (c (k + 1) s) := by
          rcases (by omega : k = 0 ∨ k = 1 ∨ k = 2 ∨ k = 3) with rfl | rfl | rfl | rfl
          · exact q0
          · exact q1
          · exact q2
          · exact q3
        rw [ev] at t
        exact ⟨_, e_X9_spell.trans t, mch.thr w', M'.2.2.2.2.2.2.2.1.thr⟩
      refine agr_q hp ok X M (w2 := w) ?_ (xch.refl w) hm
      rcases (by omega : k = 0 ∨ k = 1 ∨ k = 2 ∨ k = 3) with rfl | rfl | rfl | rfl
      · exact e_X8_spell.trans (p_X8_spell_0TS0_R hp x5 e1 (by decide) rfl x5 (s_effectOf (d := 37) hp X1 hc hs))
      · have hg := (hc.2.2.2.2.2.2.1 s hs).2.1
        have e2 := s_isGlass (d := 37) hp X1 hc hs
        rcases (by omega : c 2 s = 0 ∨ c 2 s = 1) with h | h
        · rw [h] at e2
          show _ = some (some (Value.int (nI (c 2 s))), w)
          rw [h]
          exact e_X8_spell.trans (p_X8_spell_0TS1T_R hp x5 e1 (by decide) rfl x5 e2 rfl)
        · rw [h] at e2
          show _ = some (some (Value.int (nI (c 2 s))), w)
          rw [h]
          exact e_X8_spell.trans (p_X8_spell_0TS1F_R hp x5 e1 (by decide) rfl x5 e2 (by decide))
      · exact e_X8_spell.trans (p_X8_spell_0TS2_R hp x5 e1 (by decide) rfl x5 (s_layCost (d := 37) hp X1 hc hs))
      · exact e_X8_spell.trans (p_X8_spell_0TS3_R hp x5 e1 (by decide) rfl x5 (s_liftCost (d := 37) hp X1 hc hs))
    · exact agr_q hp ok X M (v := -1) (e_X8_spell.trans (p_X8_spell_0TSd_R hp x5 e1 (by decide) (oi_ne (k := 0) h2 (by decide) (by decide)) (oi_ne (k := 1) h2 (by decide) (by decide)) (oi_ne (k := 2) h2 (by decide) (by decide)) (oi_ne (k := 3) h2 (by decide) (by decide)))) (xch.refl w)
        (fun w' M' => ⟨_, e_X9_spell.trans (p_X9_spell_0FT_R (m_isSpell1 (d := 37) M'.thr.1 hc hs) (by decide) (m_inL0 (d := 38) (N := 4) (by decide) (by decide) h2) rfl), mch.thr w', M'.2.2.2.2.2.2.2.1.thr⟩)
  · exact agr_q hp ok X M (v := -1) (e_X8_spell.trans (p_X8_spell_0F_R hp x5 (x_isSpell0 (d := 38) hp X1 hc h1) rfl)) (xch.refl w)
      (fun w' M' => ⟨_, e_X9_spell.trans (p_X9_spell_0T_R (m_isSpell0 (d := 37) M'.thr.1 hc h1) rfl), mch.thr w', M'.2.2.2.2.2.2.2.1.thr⟩)
theorem agr_pupil {x1 : Int32} (J : Jn w) : agr 108 160 [.ref 0, .int x1] [.ref 34, .int x1] w := by
  obtain ⟨p, c, rs, sp, us, im, ht, bt, n, tr, hp, ok, X, M⟩ := J
  have hc := ok.1
  have h3 := hc.2.2.1
  have X1 := X.1
  have x5 := X.2.2.2.2.2.1
  rcases in_cs (x := x1) (N := c 0 2) (by omega) with ⟨s, hs, rfl⟩ | h1
  · refine agr_q hp ok X M (v := nI (c 5 s)) (e_X8_pupil.trans (p_X8_pupil_0F_R hp x5 (x_isPupil1 (d := 38) hp X1 hc hs) (by decide) x5 (s_spellsOfPupil (d := 37) hp X1 hc hs))) (xch.refl w) (fun w' M' => ?_)
    have M1 := M'.thr
    have t := p_X9_pupil_0F_R (ex := sem 39) (m_isPupil1 (d := 37) M1.1 hc hs) (by decide) (vp_in_nI (by omega) (by decide))
    rw [nI_clamp (by omega), M1.1.2.2.2.2.2.2.2 s hs] at t
    exact ⟨_, e_X9_pupil.trans t, mch.thr w', M'.2.2.2.2.2.2.2.1.thr⟩
  · exact agr_q hp ok X M (v := -1) (e_X8_pupil.trans (p_X8_pupil_0T_R hp x5 (x_isPupil0 (d := 38) hp X1 hc h1) rfl)) (xch.refl w)
      (fun w' M' => ⟨_, e_X9_pupil.trans (p_X9_pupil_0T_R (m_isPupil0 (d := 37) M'.thr.1 hc h1) rfl), mch.thr w', M'.2.2.2.2.2.2.2.1.thr⟩)
theorem agr_thing {x1 x2 : Int32} (J : Jn w) : agr 106 157 [.ref 0, .int x1, .int x2] [.ref 34, .int x1, .int x2] w := by
  obtain ⟨p, c, rs, sp, us, im, ht, bt, n, tr, hp, ok, X, M⟩ := J
  have hc := ok.1
  have h4 := hc.2.1
  have X1 := X.1
  have x5 := X.2.2.2.2.2.1
  rcases in_cs (x := x1) (N := c 0 1) (by omega) with ⟨s, hs, rfl⟩ | h1
  · have e1 := x_isThing1 (d := 38) hp X1 hc hs
    have e2 := s_rowOf (d := 37) X.2.1.1 (t := s) (by omega)
    have hr := ok.2.1.1 s (by omega)
    have hr5 := hr.five hc
    have hv : vp_in (nI s) 5 := vp_in_nI (by omega) (by decide)
    have hcl : (nI s).toNatClampNeg = s := nI_clamp (by omega)
    rcases in_cs (x := x2) (N := 3) (by decide) with ⟨k, hk, rfl⟩ | h2
    · have g : ∀ w', MR c rs sp us im ht bt n tr w' → (updI w' 34 0 0).1 40 (nI s).toNatClampNeg = nI (cm (rs s)) := fun w' M' => by
        rw [hcl]
        exact M'.thr.2.1.1 s (by omega)
      rcases (by omega : k = 0 ∨ k = 1 ∨ k = 2) with rfl | rfl | rfl
      · refine agr_q hp ok X M (v := nI (rs s).length) (e_X8_thing.trans (p_X8_thing_0TS0_R hp x5 e1 (by decide) e2 rfl (s_depth (d := 37) hr5))) (xch.refl w) (fun w' M' => ?_)
        exact ⟨_, e_X9_thing.trans (p_X9_thing_0FTF_R (m_isThing1 (d := 37) M'.thr.1 hc hs) (by decide) (m_inL1 (d := 38) (s := 0) (N := 3) (by decide) (by decide) hk) (by decide) hv (by rw [g w' M']; exact m_layersOf (d := 38) hr5) rfl), mch.thr w', M'.2.2.2.2.2.2.2.1.thr⟩
      · refine agr_q hp ok X M (v := nI (wk c (rs s))) (e_X8_thing.trans (p_X8_thing_0TS1_R hp x5 e1 (by decide) e2 rfl x5 (s_worksOf (d := 36) hp X1 hc hr))) (xch.refl w) (fun w' M' => ?_)
        exact ⟨_, e_X9_thing.trans (p_X9_thing_0FTTF_R (m_isThing1 (d := 37) M'.thr.1 hc hs) (by decide) (m_inL1 (d := 38) (s := 1) (N := 3) (by decide) (by decide) hk) (by decide) hv (by rw [g w' M']; exact m_layersOf (d := 38) hr5) (by decide) rfl hv (by rw [g w' M']; exact m_worksOf (d := 38) M'.thr.1 hc hr)), mch.thr w', M'.2.2.2.2.2.2.2.1.thr⟩
      · have e3 := s_isHumming (d := 36) hp X1 hc hr5
        have hl := hr.1
        have hh := hc.2.2.2.2.2.1
        have mm := fun w' (M' : MR c rs sp us im ht bt n tr w') => M'.thr.1.2.2.2.2.2.1
        by_cases hx : c 0 5 ≤ (rs s).length
        · rw [if_pos hx] at e3
          refine agr_q hp ok X M (v := 1) (e_X8_thing.trans (p_X8_thing_0TS2F_R hp x5 e1 (by decide) e2 rfl x5 e3 (by decide))) (xch.refl w) (fun w' M' => ?_)
          exact ⟨_, e_X9_thing.trans (p_X9_thing_0FTTTF_R (m_isThing1 (d := 37) M'.thr.1 hc hs) (by decide) (m_inL1 (d := 38) (s := 2) (N := 3) (by decide) (by decide) hk) (by decide) hv (by rw [g w' M']; exact m_layersOf (d := 38) hr5) (by decide) (by decide) (by rw [mm w' M']; exact nI_nlt hx (by omega))), mch.thr w', M'.2.2.2.2.2.2.2.1.thr⟩
        · rw [if_neg hx] at e3
          refine agr_q hp ok X M (v := 0) (e_X8_thing.trans (p_X8_thing_0TS2T_R hp x5 e1 (by decide) e2 rfl x5 e3 rfl)) (xch.refl w) (fun w' M' => ?_)
          exact ⟨_, e_X9_thing.trans (p_X9_thing_0FTTTT_R (m_isThing1 (d := 37) M'.thr.1 hc hs) (by decide) (m_inL1 (d := 38) (s := 2) (N := 3) (by decide) (by decide) hk) (by decide) hv (by rw [g w' M']; exact m_layersOf (d := 38) hr5) (by decide) (by decide) (by rw [mm w' M']; exact nI_lt (by omega) (by omega))), mch.thr w', M'.2.2.2.2.2.2.2.1.thr⟩
    · exact agr_q hp ok X M (v := -1) (e_X8_thing.trans (p_X8_thing_0TSd_R hp x5 e1 (by decide) e2 (oi_ne (k := 0) h2 (by decide) (by decide)) (oi_ne (k := 1) h2 (by decide) (by decide)) (oi_ne (k := 2) h2 (by decide) (by decide)))) (xch.refl w)
        (fun w' M' => ⟨_, e_X9_thing.trans (p_X9_thing_0FF_R (m_isThing1 (d := 37) M'.thr.1 hc hs) (by decide) (m_inL0 (d := 38) (N := 3) (by decide) (by decide) h2) rfl), mch.thr w', M'.2.2.2.2.2.2.2.1.thr⟩)
  · exact agr_q hp ok X M (v := -1) (e_X8_thing.trans (p_X8_thing_0F_R hp x5 (x_isThing0 (d := 38) hp X1 hc h1) rfl)) (xch.refl w)
      (fun w' M' => ⟨_, e_X9_thing.trans (p_X9_thing_0T_R (m_isThing0 (d := 37) M'.thr.1 hc h1) rfl), mch.thr w', M'.2.2.2.2.2.2.2.1.thr⟩)
theorem spI_9 {r : List Nat} (h : ∀ s ∈ r, s < 5) : spI r = -9 ↔ r = [] := by
  cases r with
  | nil => exact ⟨fun _ => rfl, fun _ => rfl⟩
  | cons s r =>
    have := h s List.mem_cons_self
    refine ⟨fun g => ?_, fun g => absurd g (by simp)⟩
    have g : nI s = -9 := g
    have k := nI_pos (n := s) (by omega)
    rw [g] at k
    exact absurd (by decide) k
theorem agr_layer {x1 x2 : Int32} (J : Jn w) : agr 107 159 [.ref 0, .int x1, .int x2] [.ref 34, .int x1, .int x2] w := by
  obtain ⟨p, c, rs, sp, us, im, ht, bt, n, tr, hp, ok, X, M⟩ := J
  have hc := ok.1
  have h4 := hc.2.1
  have X1 := X.1
  have x5 := X.2.2.2.2.2.1
  rcases in_cs (x := x1) (N := c 0 1) (by omega) with ⟨s, hs, rfl⟩ | h1
  · have e1 := x_isThing1 (d := 38) hp X1 hc hs
    have e2 := s_rowOf (d := 37) X.2.1.1 (t := s) (by omega)
    have hr := ok.2.1.1 s (by omega)
    have hr5 := hr.five hc
    have hv : vp_in (nI s) 5 := vp_in_nI (by omega) (by decide)
    have hcl : (nI s).toNatClampNeg = s := nI_clamp (by omega)
    have g : ∀ w', MR c rs sp us im ht bt n tr w' → (updI w' 34 0 0).1 40 (nI s).toNatClampNeg = nI (cm (rs s)) := fun w' M' => by
      rw [hcl]
      exact M'.thr.2.1.1 s (by omega)
    rcases i_cases x2 with h2 | ⟨k, hk, rfl⟩
    · have h2' : ¬ 0 ≤ x2 := i_lt_nle h2
      exact agr_q hp ok X M (v := -1) (e_X8_layer.trans (p_X8_layer_0FF_R hp x5 e1 (by decide) h2')) (xch.refl w)
        (fun w' M' => ⟨_, e_X9_layer.trans (p_X9_layer_0FF_R (m_isThing1 (d := 37) M'.thr.1 hc hs) (by decide) h2'), mch.thr w', M'.2.2.2.2.2.2.2.1.thr⟩)
    · have h0 : 0 ≤ nI k := nI_pos' hk
      have e3 := s_fromAbove (d := 36) (w := w) hr5 hk
      refine agr_q hp ok X M (v := tpI ((rs s).drop k)) (e_X8_layer.trans (p_X8_layer_0FT_R hp x5 e1 (by decide) h0 e2 e3)) (xch.refl w) (fun w' M' => ?_)
      by_cases h4 : k ≤ 4
      · have k4 : nI k ≤ 4 := nI_le (b := 4) h4 (by decide)
        have e4 := m_spellAt (d := 38) (w := updI w' 34 0 0) hr5 hk
        rw [← g w' M'] at e4
        have h9 := spI_9 (hr5.drop k).2
        cases hd : (rs s).drop k with
        | nil =>
          rw [hd] at e4
          exact ⟨_, e_X9_layer.trans (p_X9_layer_0FTTF_R (m_isThing1 (d := 37) M'.thr.1 hc hs) (by decide) h0 k4 hv e4 rfl), mch.thr w', M'.2.2.2.2.2.2.2.1.thr⟩
        | cons a q =>
          rw [hd] at e4 h9
          exact ⟨_, e_X9_layer.trans (p_X9_layer_0FTTT_R (m_isThing1 (d := 37) M'.thr.1 hc hs) (by decide) h0 k4 hv e4 (fun g => absurd (h9.mp g) (by simp))), mch.thr w', M'.2.2.2.2.2.2.2.1.thr⟩
      · have k4 : ¬ nI k ≤ 4 := nI_ge (a := 4) (by omega) hk
        have hd : (rs s).drop k = [] := List.drop_eq_nil_of_le (by have := hr.1; omega)
        rw [hd]
        exact ⟨_, e_X9_layer.trans (p_X9_layer_0FTFF_R (m_isThing1 (d := 37) M'.thr.1 hc hs) (by decide) h0 k4 rfl), mch.thr w', M'.2.2.2.2.2.2.2.1.thr⟩
  · exact agr_q hp ok X M (v := -1) (e_X8_layer.trans (p_X8_layer_0T_R hp x5 (x_isThing0 (d := 38) hp X1 hc h1) rfl)) (xch.refl w)
      (fun w' M' => ⟨_, e_X9_layer.trans (p_X9_layer_0T_R (m_isThing0 (d := 37) M'.thr.1 hc h1) rfl), mch.thr w', M'.2.2.2.2.2.2.2.1.thr⟩)
theorem s_seen {ht : List (Nat × Nat)} {d : Nat} (H : XHt ht w) : sem (d + 1) 2 [.ref 15] w = some (some (.int (nI ht.length)), w) := by
  rw [← H.1]
  exact e_X1_seen.trans p_X1_seen_0_R
theorem s_len {bt : Nat → Nat} {n d : Nat} (T : XT bt n w) : sem (d + 1) 19 [.ref 1] w = some (some (.int (nI n)), w) := by
  rw [← T.1]
  exact e_X3_length.trans p_X3_length_0_R
theorem agr_count {x1 : Int32} (J : Jn w) : agr 128 196 [.ref 0, .int x1] [.ref 34, .int x1] w := by
  obtain ⟨p, c, rs, sp, us, im, ht, bt, n, tr, hp, ok, X, M⟩ := J
  have hc := ok.1
  have X1 := X.1
  have x5 := X.2.2.2.2.2.1
  rcases in_cs (x := x1) (N := 8) (by decide) with ⟨k, hk, rfl⟩ | h1
  · rcases (by omega : k = 0 ∨ k = 1 ∨ k = 2 ∨ k = 3 ∨ k = 4 ∨ k = 5 ∨ k = 6 ∨ k = 7) with rfl | rfl | rfl | rfl | rfl | rfl | rfl | rfl
    · refine agr_q hp ok X M (e_X8_count.trans (p_X8_count_0S0_R hp rfl x5 (x_spells (d := 38) hp X1))) (xch.refl w) (fun w' M' => ?_)
      have t := p_X9_count_0FF_R (ex := sem 39) (x1 := nI 0) (w := w') (by decide) rfl
      rw [M'.1.1] at t
      exact ⟨_, e_X9_count.trans t, mch.thr w', M'.2.2.2.2.2.2.2.1.thr⟩
    · refine agr_q hp ok X M (e_X8_count.trans (p_X8_count_0S1_R hp rfl x5 (s_things (d := 38) hp X1))) (xch.refl w) (fun w' M' => ?_)
      have t := p_X9_count_0FTF_R (ex := sem 39) (x1 := nI 1) (w := w') (by decide) (by decide) rfl
      rw [M'.1.2.1] at t
      exact ⟨_, e_X9_count.trans t, mch.thr w', M'.2.2.2.2.2.2.2.1.thr⟩
    · refine agr_q hp ok X M (e_X8_count.trans (p_X8_count_0S2_R hp rfl x5 (x_pupils (d := 38) hp X1))) (xch.refl w) (fun w' M' => ?_)
      have t := p_X9_count_0FTTF_R (ex := sem 39) (x1 := nI 2) (w := w') (by decide) (by decide) (by decide) rfl
      rw [M'.1.2.2.1] at t
      exact ⟨_, e_X9_count.trans t, mch.thr w', M'.2.2.2.2.2.2.2.1.thr⟩
    · refine agr_q hp ok X M (e_X8_count.trans (p_X8_count_0S3_R hp rfl (s_seen (d := 38) X.2.2.1))) (xch.refl w) (fun w' M' => ?_)
      have t := p_X9_count_0FTTTF_R (ex := sem 39) (x1 := nI 3) (w := w') (by decide) (by decide) (by decide) (by decide) rfl
      rw [M'.2.2.2.2.1.1] at t
      exact ⟨_, e_X9_count.trans t, mch.thr w', M'.2.2.2.2.2.2.2.1.thr⟩
    · refine agr_q hp ok X M (e_X8_count.trans (p_X8_count_0S4_R hp rfl (s_len (d := 38) X.2.2.2.1))) (xch.refl w) (fun w' M' => ?_)
      have t := p_X9_count_0TF_R (ex := sem 39) (x1 := nI 4) (w := w') (by decide) rfl
      rw [M'.2.2.2.2.2.1.1] at t
      exact ⟨_, e_X9_count.trans t, mch.thr w', M'.2.2.2.2.2.2.2.1.thr⟩
    · have e1 : sem 39 56 [.ref p] w = some (some (.int (nI (c 0 3))), w) := by
        rw [← X1.2.2.2.1]; exact e_X5_costOfSwap.trans (p_X5_costOfSwap_0_R hp)
      refine agr_q hp ok X M (e_X8_count.trans (p_X8_count_0S5_R hp rfl x5 e1)) (xch.refl w) (fun w' M' => ?_)
      have t := p_X9_count_0TTF_R (ex := sem 39) (x1 := nI 5) (w := w') (by decide) (by decide) (m_inN (d := 38) (a := 5) (lo := 5) (hi := 7) (by decide) (by decide) (by decide)) (by decide) (by unfold vp_in; decide)
      have ev : (updI w' 34 0 0).1 39 (((3 + nI 5) - 5 : Int32).toNatClampNeg) = nI (c 0 3) := M'.thr.1.2.2.2.1
      rw [ev] at t
      exact ⟨_, e_X9_count.trans t, mch.thr w', M'.2.2.2.2.2.2.2.1.thr⟩
    · have e1 : sem 39 57 [.ref p] w = some (some (.int (nI (c 0 4))), w) := by
        rw [← X1.2.2.2.2.1]; exact e_X5_costOfCopy.trans (p_X5_costOfCopy_0_R hp)
      refine agr_q hp ok X M (e_X8_count.trans (p_X8_count_0S6_R hp rfl x5 e1)) (xch.refl w) (fun w' M' => ?_)
      have t := p_X9_count_0TTF_R (ex := sem 39) (x1 := nI 6) (w := w') (by decide) (by decide) (m_inN (d := 38) (a := 6) (lo := 5) (hi := 7) (by decide) (by decide) (by decide)) (by decide) (by unfold vp_in; decide)
      have ev : (updI w' 34 0 0).1 39 (((3 + nI 6) - 5 : Int32).toNatClampNeg) = nI (c 0 4) := M'.thr.1.2.2.2.2.1
      rw [ev] at t
      exact ⟨_, e_X9_count.trans t, mch.thr w', M'.2.2.2.2.2.2.2.1.thr⟩
    · have e1 : sem 39 58 [.ref p] w = some (some (.int (nI (c 0 5))), w) := by
        rw [← X1.2.2.2.2.2.1]; exact e_X5_humsFrom.trans (p_X5_humsFrom_0_R hp)
      refine agr_q hp ok X M (e_X8_count.trans (p_X8_count_0S7_R hp rfl x5 e1)) (xch.refl w) (fun w' M' => ?_)
      have t := p_X9_count_0TTF_R (ex := sem 39) (x1 := nI 7) (w := w') (by decide) (by decide) (m_inN (d := 38) (a := 7) (lo := 5) (hi := 7) (by decide) (by decide) (by decide)) (by decide) (by unfold vp_in; decide)
      have ev : (updI w' 34 0 0).1 39 (((3 + nI 7) - 5 : Int32).toNatClampNeg) = nI (c 0 5) := M'.thr.1.2.2.2.2.2.1
      rw [ev] at t
      exact ⟨_, e_X9_count.trans t, mch.thr w', M'.2.2.2.2.2.2.2.1.thr⟩
  · have ne := fun k hk => oi_ne (k := k) h1 hk (by decide)
    refine agr_q hp ok X M (v := -1) (e_X8_count.trans (p_X8_count_0Sd_R hp (ne 0 (by decide)) (ne 1 (by decide)) (ne 2 (by decide)) (ne 3 (by decide)) (ne 4 (by decide)) (ne 5 (by decide)) (ne 6 (by decide)) (ne 7 (by decide)))) (xch.refl w) (fun w' M' => ?_)
    by_cases h4 : (4 : Int32) ≤ x1
    · have h8 : nI 8 ≤ x1 := by
        rcases out_cs h1 with g | g
        · rw [fa_lt] at g
          rw [fa_le] at h4
          have a1 : (0 : Int32).toInt = 0 := by decide
          have a2 : (4 : Int32).toInt = 4 := by decide
          rw [a1] at g
          rw [a2] at h4
          omega
        · exact g.2
      have e8 : (nI 8).toInt = 8 := by decide
      have e7 : (7 : Int32).toInt = 7 := by decide
      have e5 : (5 : Int32).toInt = 5 := by decide
      rw [fa_le, e8] at h8
      have ei : sem 39 135 [.int x1, .int 5, .int 7] (updI w' 34 0 0) = some (some (.int 0), updI w' 34 0 0) := e_X9_in.trans (p_X9_in_0FT_R (by rw [fa_lt, e5]; omega) (by rw [fa_lt, e7]; omega))
      exact ⟨_, e_X9_count.trans (p_X9_count_0TTT_R h4 (ne 4 (by decide)) ei rfl), mch.thr w', M'.2.2.2.2.2.2.2.1.thr⟩
    · exact ⟨_, e_X9_count.trans (p_X9_count_0FTTTT_R h4 (ne 0 (by decide)) (ne 1 (by decide)) (ne 2 (by decide)) (ne 3 (by decide))), mch.thr w', M'.2.2.2.2.2.2.2.1.thr⟩
theorem agr_trace (J : Jn w) : agrL 129 197 [.ref 0] [.ref 34] w := by
  obtain ⟨p, c, rs, sp, us, im, ht, bt, n, tr, hp, ok, X, M⟩ := J
  have e1 : sem 39 11 [.ref 19] w = some (some (.long tr), w) := by
    rw [← X.2.2.2.2.1]; exact e_X2_traced.trans p_X2_traced_0_R
  refine agr_qL hp ok X M (e_X8_trace.trans (p_X8_trace_0_R e1)) (xch.refl w) (fun w' M' => ?_)
  have t := p_X9_trace_0_R (ex := sem 39) (w := w')
  rw [M'.2.2.2.2.2.2.1] at t
  exact ⟨_, e_X9_trace.trans t, mch.thr w', M'.2.2.2.2.2.2.2.1.thr⟩
theorem layN_ext {rs : Nat → List Nat} {T : Nat} (h : ∀ t, T ≤ t → t < 4 → rs t = []) : ∀ m, T + m ≤ 4 → layN rs (T + m) = layN rs T := by
  intro m
  induction m with
  | zero => intro _; rfl
  | succ m ih =>
    intro hm
    show layN rs (T + m) + (rs (T + m)).length = layN rs T
    rw [ih (by omega), h (T + m) (by omega) (by omega)]
    rfl
theorem l_mnow {c : Nat → Nat → Nat} {rs : Nat → List Nat} {sp : Nat} {x1 : Int32} (hc : okc c) (hr : ∀ t, t < 4 → okr (c 0 0) (rs t)) (M : MS c w) (R : MRo rs sp w) : ∀ (m k : Nat) (v5 : Value), m + k = c 0 1 → ∃ v, runs (T_X9_now (sem 39)) (12, [.ref 34, .int x1, .int (nI (humN (c 0 5) rs k)), .int (nI (layN rs k)), .int (nI k), v5], [], w) = runs (T_X9_now (sem 39)) (12, [.ref 34, .int x1, .int (nI (humN (c 0 5) rs (c 0 1))), .int (nI (layN rs (c 0 1))), .int (nI (c 0 1)), v], [], w) := by
  have h4 := hc.2.1
  intro m
  induction m with
  | zero =>
    intro k v5 hk
    have ek : k = c 0 1 := by omega
    rw [ek]
    exact ⟨v5, rfl⟩
  | succ m ih =>
    intro k v5 hk
    have hr5 := (hr k (by omega)).five hc
    have g1 : ¬ (w.1 34 14) ≤ nI k := by rw [M.2.1]; exact nI_ge (by omega) (by omega)
    have e1 := m_layersOf (d := 38) (w := w) hr5
    have g : w.1 40 (nI k).toNatClampNeg = nI (cm (rs k)) := by rw [nI_clamp (by omega)]; exact R.1 k (by omega)
    rw [← g] at e1
    have hl := (hr k (by omega)).1
    have hh := hc.2.2.2.2.2.1
    obtain ⟨v, a1⟩ := ih (k + 1) (.int (nI (rs k).length)) (by omega)
    have e2 : humN (c 0 5) rs (k + 1) = if c 0 5 ≤ (rs k).length then humN (c 0 5) rs k ||| 2 ^ k else humN (c 0 5) rs k := rfl
    have e3 : layN rs (k + 1) = layN rs k + (rs k).length := rfl
    refine ⟨v, Eq.trans ?_ a1⟩
    rw [e2, e3]
    by_cases hx : c 0 5 ≤ (rs k).length
    · rw [if_pos hx]
      have t := p_X9_now_12FF_L12 (x1 := x1) (x2 := nI (humN (c 0 5) rs k)) (x3 := nI (layN rs k)) (v5 := v5) g1 (vp_in_nI (by omega) (by decide)) e1 (by rw [M.2.2.2.2.2.1]; exact nI_nlt hx (by omega))
      rw [i_pow (by omega), i_or, nI_add, nI_1] at t
      exact t
    · rw [if_neg hx]
      have t := p_X9_now_12FT_L12 (x1 := x1) (x2 := nI (humN (c 0 5) rs k)) (x3 := nI (layN rs k)) (v5 := v5) g1 (vp_in_nI (by omega) (by decide)) e1 (by rw [M.2.2.2.2.2.1]; exact nI_lt (by omega) (by omega))
      rw [Int32.or_zero, nI_add, nI_1] at t
      exact t
theorem agr_now {x1 : Int32} (J : Jn w) : agr 114 169 [.ref 0, .int x1] [.ref 34, .int x1] w := by
  obtain ⟨p, c, rs, sp, us, im, ht, bt, n, tr, hp, ok, X, M⟩ := J
  have hc := ok.1
  have h4 := hc.2.1
  have X1 := X.1
  have x5 := X.2.2.2.2.2.1
  have hr := ok.2.1.1
  have hr5 : ∀ t, t < 4 → okr 5 (rs t) := fun t ht => (hr t ht).five hc
  have base : ∀ w', MR c rs sp us im ht bt n tr w' → ∃ v, sem 40 169 [.ref 34, .int x1] w' = runs (T_X9_now (sem 39)) (12, [.ref 34, .int x1, .int (nI (humN (c 0 5) rs (c 0 1))), .int (nI (layN rs (c 0 1))), .int (nI (c 0 1)), v], [], updI w' 34 0 0) := fun w' M' => by
    obtain ⟨v, a⟩ := l_mnow (x1 := x1) hc hr M'.thr.1 M'.thr.2.1 (c 0 1) 0 .null (by omega)
    exact ⟨v, e_X9_now.trans (p_X9_now_0_L12.trans a)⟩
  have g1 : ∀ w', MR c rs sp us im ht bt n tr w' → (updI w' 34 0 0).1 34 14 ≤ nI (c 0 1) := fun w' M' => by
    rw [M'.thr.1.2.1]; exact nI_le (Nat.le_refl _) (by omega)
  rcases in_cs (x := x1) (N := 4) (by decide) with ⟨k, hk, rfl⟩ | h1
  · rcases (by omega : k = 0 ∨ k = 1 ∨ k = 2 ∨ k = 3) with rfl | rfl | rfl | rfl
    · refine agr_q hp ok X M (e_X8_now.trans (p_X8_now_0S0_R hp rfl (s_spent (d := 38) X.2.1.1))) (xch.refl w) (fun w' M' => ?_)
      obtain ⟨v, a⟩ := base w' M'
      have t := p_X9_now_12TF_R (ex := sem 39) (x1 := nI 0) (x2 := nI (humN (c 0 5) rs (c 0 1))) (x3 := nI (layN rs (c 0 1))) (v5 := v) (g1 w' M') rfl
      rw [M'.thr.2.1.2] at t
      exact ⟨_, a.trans t, mch.thr w', M'.2.2.2.2.2.2.2.1.thr⟩
    · refine agr_q hp ok X M (e_X8_now.trans (p_X8_now_0S1_R hp rfl x5 (s_humming (d := 35) hp X1 hc X.2.1.1 hr5))) (xch.refl w) (fun w' M' => ?_)
      obtain ⟨v, a⟩ := base w' M'
      exact ⟨_, a.trans (p_X9_now_12TTF_R (g1 w' M') (by decide) rfl), mch.thr w', M'.2.2.2.2.2.2.2.1.thr⟩
    · refine agr_q hp ok X M (e_X8_now.trans (p_X8_now_0S2_R hp rfl (s_layers (d := 36) X.2.1.1 hr5))) (xch.refl w) (fun w' M' => ?_)
      obtain ⟨v, a⟩ := base w' M'
      have t := p_X9_now_12TTTF_R (ex := sem 39) (x1 := nI 2) (x2 := nI (humN (c 0 5) rs (c 0 1))) (x3 := nI (layN rs (c 0 1))) (v5 := v) (g1 w' M') (by decide) (by decide) rfl
      have e := layN_ext ok.2.2.1 (4 - c 0 1) (by omega)
      rw [show c 0 1 + (4 - c 0 1) = 4 by omega] at e
      rw [e]
      exact ⟨_, a.trans t, mch.thr w', M'.2.2.2.2.2.2.2.1.thr⟩
    · refine agr_q hp ok X M (e_X8_now.trans (p_X8_now_0S3_R hp rfl (s_known (d := 38) X.2.1.2.1))) (xch.refl w) (fun w' M' => ?_)
      obtain ⟨v, a⟩ := base w' M'
      have t := p_X9_now_12TTTTF_R (ex := sem 39) (x1 := nI 3) (x2 := nI (humN (c 0 5) rs (c 0 1))) (x3 := nI (layN rs (c 0 1))) (v5 := v) (g1 w' M') (by decide) (by decide) (by decide) rfl
      rw [M'.thr.2.2.1.1] at t
      exact ⟨_, a.trans t, mch.thr w', M'.2.2.2.2.2.2.2.1.thr⟩
  · have ne := fun k hk => oi_ne (k := k) h1 hk (by decide)
    refine agr_q hp ok X M (v := -1) (e_X8_now.trans (p_X8_now_0Sd_R hp (ne 0 (by decide)) (ne 1 (by decide)) (ne 2 (by decide)) (ne 3 (by decide)))) (xch.refl w) (fun w' M' => ?_)
    obtain ⟨v, a⟩ := base w' M'
    exact ⟨_, a.trans (p_X9_now_12TTTTT_R (g1 w' M') (ne 0 (by decide)) (ne 1 (by decide)) (ne 2 (by decide)) (ne 3 (by decide))), mch.thr w', M'.2.2.2.2.2.2.2.1.thr⟩
end SIMPLE

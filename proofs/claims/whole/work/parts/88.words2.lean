/-! words: lay, lift, swap, copy, undo agree -/
section WORDS2
variable {w : Wd}
theorem b2i_cases (b : Bool) : (b = true ∧ b2i b = 1) ∨ (b = false ∧ b2i b = 0) := by cases b with
  | true => exact Or.inl ⟨rfl, rfl⟩
  | false => exact Or.inr ⟨rfl, rfl⟩
theorem agr_lay {x1 x2 x3 : Int32} (J : Jn w) : agr 109 163 [.ref 0, .int x1, .int x2, .int x3] [.ref 34, .int x1, .int x2, .int x3] w := by
  obtain ⟨p, c, rs, sp, us, im, ht, bt, n, tr, hp, ok, X, M⟩ := J
  have hc := ok.1
  have h3 := hc.2.2.1
  have h4 := hc.2.1
  have h5 := hc.1
  have X1 := X.1
  have x5 := X.2.2.2.2.2.1
  rcases in_cs (x := x1) (N := c 0 2) (by omega) with ⟨q, hq, rfl⟩ | h1
  · have a1 := x_isPupil1 (d := 38) hp X1 hc hq
    have b1 := fun w' (M' : MR c rs sp us im ht bt n tr w') => m_isPupil1 (d := 37) M'.thr.1 hc hq
    rcases in_cs (x := x2) (N := c 0 1) (by omega) with ⟨t, ht1, rfl⟩ | h2
    · have a2 := x_isThing1 (d := 38) hp X1 hc ht1
      have b2 := fun w' (M' : MR c rs sp us im ht bt n tr w') => m_isThing1 (d := 37) M'.thr.1 hc ht1
      rcases in_cs (x := x3) (N := c 0 0) (by omega) with ⟨s, hs, rfl⟩ | h3
      · have a3 := x_isSpell1 (d := 38) hp X1 hc hs
        have b3 := fun w' (M' : MR c rs sp us im ht bt n tr w') => m_isSpell1 (d := 37) M'.thr.1 hc hs
        have a4 := s_maySay (d := 36) (set := 2 ^ q) (s := s) hp X1 hc (Nat.pow_lt_pow_right (by decide) (by omega)) (by omega)
        rw [← i_pow (by omega), may_q hc hq (by omega)] at a4
        have b4 := fun w' (M' : MR c rs sp us im ht bt n tr w') => m_may (d := 38) M'.thr.1 hc hq (s := s) (by omega)
        rcases b2i_cases ((c 5 q).testBit s) with ⟨_, hm⟩ | ⟨_, hm⟩
        · rw [hm] at a4 b4
          have hr := ok.2.1.1 t (by omega)
          have hr5 := hr.five hc
          have a5 := s_rowOf (d := 37) X.2.1.1 (t := t) (by omega)
          have a6 := s_isFull (d := 38) (w := w) hr5
          have hv : vp_in (nI t) 5 := vp_in_nI (by omega) (by decide)
          have g : ∀ w', MR c rs sp us im ht bt n tr w' → (updI w' 34 0 0).1 40 (nI t).toNatClampNeg = nI (cm (rs t)) := fun w' M' => by
            rw [nI_clamp (by omega)]
            exact M'.thr.2.1.1 t (by omega)
          have b5 : ∀ w', MR c rs sp us im ht bt n tr w' → sem 39 155 [.int ((updI w' 34 0 0).1 40 (nI t).toNatClampNeg)] (updI w' 34 0 0) = some (some (.int (nI (rs t).length)), updI w' 34 0 0) := fun w' M' => by
            rw [g w' M']; exact m_layersOf (d := 38) hr5
          by_cases hf : (rs t).length = 5
          · rw [if_pos hf] at a6
            exact agr_q hp ok X M (v := -3) (e_X8_lay.trans (p_X8_lay_0FFTTF_R hp x5 a1 (by decide) x5 a2 (by decide) x5 a3 (by decide) x5 a4 (by decide) a5 a6 (by decide))) (xch.refl w)
              (fun w' M' => ⟨_, e_X9_lay.trans (p_X9_lay_0FFTTF_R (b1 w' M') (by decide) (b2 w' M') (by decide) (b3 w' M') (by decide) (b4 w' M') (by decide) hv (b5 w' M') (by rw [hf]; rfl)), mch.thr w', M'.2.2.2.2.2.2.2.1.thr⟩)
          · rw [if_neg hf] at a6
            have a7 := s_layCost (d := 37) hp X1 hc hs
            have hl := hr.1
            have hr2 : okr (c 0 0) (s :: rs t) := ⟨by simp only [List.length_cons]; omega, fun z hz => (List.mem_cons.mp hz).elim (fun h => by rw [h]; exact hs) (hr.2 z)⟩
            have i4 : 4 * nI s + 2 = nI (4 * s + 2) := by
              have k1 : nI s * 4 = nI (s * 4) := pk_mul s 4
              have k2 : nI (s * 4) + nI 2 = nI (s * 4 + 2) := nI_add _ 2
              rw [Int32.mul_comm, k1]
              refine k2.trans ?_
              rw [Nat.mul_comm]
            refine agr_word (v := nI (c 3 s)) (t := t) (cost := c 3 s) (r := s :: rs t) hp ok X M ht1 hr2 (fun w2 e => e_X8_lay.trans (p_X8_lay_0FFTTT_R hp x5 a1 (by decide) x5 a2 (by decide) x5 a3 (by decide) x5 a4 (by decide) a5 a6 rfl x5 a7 s_with e)) (fun w' w3 M' f e => ?_)
            have ec : (updI w' 34 0 0).1 36 (4 * nI s + 2 : Int32).toNatClampNeg = nI (c 3 s) := by
              rw [i4, nI_clamp (by omega)]
              exact (M'.thr.1.2.2.2.2.2.2.1 s hs).2.2.1
            have er : ((6 * (updI w' 34 0 0).1 40 (nI t).toNatClampNeg) + nI s) + 1 = nI (cm (s :: rs t)) := by
              rw [g w' M']
              have k1 : nI (cm (rs t)) * 6 = nI (cm (rs t) * 6) := pk_mul _ 6
              rw [Int32.mul_comm, k1, nI_add, nI_1, Nat.mul_comm]
              rfl
            rw [← er, ← ec] at e
            have vv : vp_in (4 * nI s + 2) 40 := by rw [i4]; exact vp_in_nI (by omega) (by decide)
            have t1 := p_X9_lay_0FFTTT_R (b1 w' M') (by decide) (b2 w' M') (by decide) (b3 w' M') (by decide) (b4 w' M') (by decide) hv (b5 w' M') (fun h => hf ((nI_eq (b := 5) (by omega) (by decide)).mp h)) hv vv e vv
            rw [f.1 36 (by decide) (by decide) (by decide), ec] at t1
            exact e_X9_lay.trans t1
        · rw [hm] at a4 b4
          exact agr_q hp ok X M (v := -2) (e_X8_lay.trans (p_X8_lay_0FFTF_R hp x5 a1 (by decide) x5 a2 (by decide) x5 a3 (by decide) x5 a4 rfl)) (xch.refl w)
            (fun w' M' => ⟨_, e_X9_lay.trans (p_X9_lay_0FFTF_R (b1 w' M') (by decide) (b2 w' M') (by decide) (b3 w' M') (by decide) (b4 w' M') rfl), mch.thr w', M'.2.2.2.2.2.2.2.1.thr⟩)
      · exact agr_q hp ok X M (v := -1) (e_X8_lay.trans (p_X8_lay_0FFF_R hp x5 a1 (by decide) x5 a2 (by decide) x5 (x_isSpell0 (d := 38) hp X1 hc h3) rfl)) (xch.refl w)
          (fun w' M' => ⟨_, e_X9_lay.trans (p_X9_lay_0FFF_R (b1 w' M') (by decide) (b2 w' M') (by decide) (m_isSpell0 (d := 37) M'.thr.1 hc h3) rfl), mch.thr w', M'.2.2.2.2.2.2.2.1.thr⟩)
    · exact agr_q hp ok X M (v := -1) (e_X8_lay.trans (p_X8_lay_0FT_R hp x5 a1 (by decide) x5 (x_isThing0 (d := 38) hp X1 hc h2) rfl)) (xch.refl w)
        (fun w' M' => ⟨_, e_X9_lay.trans (p_X9_lay_0FT_R (b1 w' M') (by decide) (m_isThing0 (d := 37) M'.thr.1 hc h2) rfl), mch.thr w', M'.2.2.2.2.2.2.2.1.thr⟩)
  · exact agr_q hp ok X M (v := -1) (e_X8_lay.trans (p_X8_lay_0T_R hp x5 (x_isPupil0 (d := 38) hp X1 hc h1) rfl)) (xch.refl w)
      (fun w' M' => ⟨_, e_X9_lay.trans (p_X9_lay_0T_R (m_isPupil0 (d := 37) M'.thr.1 hc h1) rfl), mch.thr w', M'.2.2.2.2.2.2.2.1.thr⟩)
theorem oI_some {q : List Nat} (h : okr 5 q) : 0 ≤ oI (some q) := nI_pos' (by have := cx_lt h; omega)
theorem oI_none' : ¬ 0 ≤ oI none := by decide
theorem agr_lift {x1 x2 : Int32} (J : Jn w) : agr 110 164 [.ref 0, .int x1, .int x2] [.ref 34, .int x1, .int x2] w := by
  obtain ⟨p, c, rs, sp, us, im, ht, bt, n, tr, hp, ok, X, M⟩ := J
  have hc := ok.1
  have h3 := hc.2.2.1
  have h4 := hc.2.1
  have h5 := hc.1
  have X1 := X.1
  have x5 := X.2.2.2.2.2.1
  rcases in_cs (x := x1) (N := c 0 2) (by omega) with ⟨q, hq, rfl⟩ | h1
  · have a1 := x_isPupil1 (d := 38) hp X1 hc hq
    have b1 := fun w' (M' : MR c rs sp us im ht bt n tr w') => m_isPupil1 (d := 37) M'.thr.1 hc hq
    rcases in_cs (x := x2) (N := c 0 1) (by omega) with ⟨t, ht1, rfl⟩ | h2
    · have a2 := x_isThing1 (d := 38) hp X1 hc ht1
      have b2 := fun w' (M' : MR c rs sp us im ht bt n tr w') => m_isThing1 (d := 37) M'.thr.1 hc ht1
      have hr := ok.2.1.1 t (by omega)
      have hr5 := hr.five hc
      have a5 := s_rowOf (d := 37) X.2.1.1 (t := t) (by omega)
      have hv : vp_in (nI t) 5 := vp_in_nI (by omega) (by decide)
      have g : ∀ w', MR c rs sp us im ht bt n tr w' → (updI w' 34 0 0).1 40 (nI t).toNatClampNeg = nI (cm (rs t)) := fun w' M' => by
        rw [nI_clamp (by omega)]
        exact M'.thr.2.1.1 t (by omega)
      have a6 := s_after (d := 35) (set := 2 ^ q) (x := 5) hp X1 hc hr (Nat.pow_lt_pow_right (by decide) (by omega)) (by decide)
      rw [← i_pow (k := q) (by omega)] at a6
      have b6 : ∀ w', MR c rs sp us im ht bt n tr w' → sem 39 158 [.int ((updI w' 34 0 0).1 40 (nI t).toNatClampNeg), .int 0] (updI w' 34 0 0) = some (some (.int (spI (rs t))), updI w' 34 0 0) := fun w' M' => by
        rw [g w' M']; exact m_spellAt (d := 38) (n := 0) hr5 (by decide)
      cases hrs : rs t with
      | nil =>
        rw [hrs] at a6 b6
        exact agr_q hp ok X M (v := -2) (e_X8_lift.trans (p_X8_lift_0FTF_R hp x5 a1 (by decide) x5 a2 (by decide) (by rw [hrs] at a5; exact a5) x5 a6 oI_none')) (xch.refl w)
          (fun w' M' => ⟨_, e_X9_lift.trans (p_X9_lift_0FTT_R (b1 w' M') (by decide) (b2 w' M') (by decide) hv (b6 w' M') rfl), mch.thr w', M'.2.2.2.2.2.2.2.1.thr⟩)
      | cons s r =>
        rw [hrs] at a5 a6 b6 hr hr5
        have hs := hr.hd
        have n9 : ¬ spI (s :: r) = -9 := fun h => absurd ((spI_9 hr5.2).mp h) (by simp)
        have b7 := fun w' (M' : MR c rs sp us im ht bt n tr w') => m_may (d := 38) M'.thr.1 hc hq (s := s) (by omega)
        have em := may_q hc hq (s := s) (by omega)
        rcases b2i_cases ((c 5 q).testBit s) with ⟨hb, hm⟩ | ⟨hb, hm⟩
        · rw [hm] at b7
          rw [hb] at em
          have ea : af c (2 ^ q) (s :: r) 5 = some r := af_lift' em
          rw [ea] at a6
          have a7 := s_costOf (d := 36) (set := 2 ^ q) (x := 5) (q := r) hp X1 hc hr (by decide) ea
          have ec : cst c (s :: r) 5 = c 4 s := rfl
          rw [ec] at a7
          refine agr_word (v := nI s) (t := t) (cost := c 4 s) (r := r) hp ok X M ht1 hr.tl (fun w2 e => e_X8_lift.trans (p_X8_lift_0FTT_R hp x5 a1 (by decide) x5 a2 (by decide) a5 x5 a6 (oI_some hr5.tl) x5 a7 e (s_top (d := 38) hr5))) (fun w' w3 M' f e => ?_)
          have i4 : 4 * spI (s :: r) + 3 = nI (4 * s + 3) := by
            show 4 * nI s + 3 = nI (4 * s + 3)
            have k1 : nI s * 4 = nI (s * 4) := pk_mul s 4
            have k2 : nI (s * 4) + nI 3 = nI (s * 4 + 3) := nI_add _ 3
            rw [Int32.mul_comm, k1]
            refine k2.trans ?_
            rw [Nat.mul_comm]
          have e4 : (updI w' 34 0 0).1 36 (4 * spI (s :: r) + 3 : Int32).toNatClampNeg = nI (c 4 s) := by
            rw [i4, nI_clamp (by omega)]
            exact (M'.thr.1.2.2.2.2.2.2.1 s hs).2.2.2
          have er : (updI w' 34 0 0).1 40 (nI t).toNatClampNeg / 6 = nI (cm r) := by
            rw [g w' M', hrs]
            exact cm_tail hr5
          rw [← er, ← e4] at e
          exact e_X9_lift.trans (p_X9_lift_0FTFT_R (b1 w' M') (by decide) (b2 w' M') (by decide) hv (b6 w' M') n9 (b7 w' M') (by decide) hv (by show vp_in (4 * spI (s :: r) + 3) 40; rw [i4]; exact vp_in_nI (by omega) (by decide)) e)
        · rw [hm] at b7
          rw [hb] at em
          have ea : af c (2 ^ q) (s :: r) 5 = none := by unfold af; rw [if_neg (by decide), if_pos rfl]; dsimp only; rw [em]; rfl
          rw [ea] at a6
          exact agr_q hp ok X M (v := -2) (e_X8_lift.trans (p_X8_lift_0FTF_R hp x5 a1 (by decide) x5 a2 (by decide) a5 x5 a6 oI_none')) (xch.refl w)
            (fun w' M' => ⟨_, e_X9_lift.trans (p_X9_lift_0FTFF_R (b1 w' M') (by decide) (b2 w' M') (by decide) hv (b6 w' M') n9 (b7 w' M') rfl), mch.thr w', M'.2.2.2.2.2.2.2.1.thr⟩)
    · exact agr_q hp ok X M (v := -1) (e_X8_lift.trans (p_X8_lift_0FF_R hp x5 a1 (by decide) x5 (x_isThing0 (d := 38) hp X1 hc h2) rfl)) (xch.refl w)
        (fun w' M' => ⟨_, e_X9_lift.trans (p_X9_lift_0FF_R (b1 w' M') (by decide) (m_isThing0 (d := 37) M'.thr.1 hc h2) rfl), mch.thr w', M'.2.2.2.2.2.2.2.1.thr⟩)
  · exact agr_q hp ok X M (v := -1) (e_X8_lift.trans (p_X8_lift_0T_R hp x5 (x_isPupil0 (d := 38) hp X1 hc h1) rfl)) (xch.refl w)
      (fun w' M' => ⟨_, e_X9_lift.trans (p_X9_lift_0T_R (m_isPupil0 (d := 37) M'.thr.1 hc h1) rfl), mch.thr w', M'.2.2.2.2.2.2.2.1.thr⟩)
theorem agr_swap {x1 x2 : Int32} (J : Jn w) : agr 111 166 [.ref 0, .int x1, .int x2] [.ref 34, .int x1, .int x2] w := by
  obtain ⟨p, c, rs, sp, us, im, ht, bt, n, tr, hp, ok, X, M⟩ := J
  have hc := ok.1
  have h3 := hc.2.2.1
  have h4 := hc.2.1
  have h5 := hc.1
  have X1 := X.1
  have x5 := X.2.2.2.2.2.1
  rcases in_cs (x := x1) (N := c 0 2) (by omega) with ⟨q, hq, rfl⟩ | h1
  · have a1 := x_isPupil1 (d := 38) hp X1 hc hq
    have b1 := fun w' (M' : MR c rs sp us im ht bt n tr w') => m_isPupil1 (d := 37) M'.thr.1 hc hq
    rcases in_cs (x := x2) (N := c 0 1) (by omega) with ⟨t, ht1, rfl⟩ | h2
    · have a2 := x_isThing1 (d := 38) hp X1 hc ht1
      have b2 := fun w' (M' : MR c rs sp us im ht bt n tr w') => m_isThing1 (d := 37) M'.thr.1 hc ht1
      have hr := ok.2.1.1 t (by omega)
      have hr5 := hr.five hc
      have a5 := s_rowOf (d := 37) X.2.1.1 (t := t) (by omega)
      have hv : vp_in (nI t) 5 := vp_in_nI (by omega) (by decide)
      have g : ∀ w', MR c rs sp us im ht bt n tr w' → (updI w' 34 0 0).1 40 (nI t).toNatClampNeg = nI (cm (rs t)) := fun w' M' => by
        rw [nI_clamp (by omega)]
        exact M'.thr.2.1.1 t (by omega)
      have a6 := s_after (d := 35) (set := 2 ^ q) (x := 6) hp X1 hc hr (Nat.pow_lt_pow_right (by decide) (by omega)) (by decide)
      rw [← i_pow (k := q) (by omega)] at a6
      have b6 : ∀ w', MR c rs sp us im ht bt n tr w' → sem 39 158 [.int ((updI w' 34 0 0).1 40 (nI t).toNatClampNeg), .int 0] (updI w' 34 0 0) = some (some (.int (spI (rs t))), updI w' 34 0 0) := fun w' M' => by
        rw [g w' M']; exact m_spellAt (d := 38) (n := 0) hr5 (by decide)
      have b7 : ∀ w', MR c rs sp us im ht bt n tr w' → sem 39 158 [.int ((updI w' 34 0 0).1 40 (nI t).toNatClampNeg), .int 1] (updI w' 34 0 0) = some (some (.int (spI ((rs t).drop 1))), updI w' 34 0 0) := fun w' M' => by
        rw [g w' M']; exact m_spellAt (d := 38) (n := 1) hr5 (by decide)
      have few : (rs t).drop 1 = [] → af c (2 ^ q) (rs t) 6 = none → agr 111 166 [.ref 0, .int (nI q), .int (nI t)] [.ref 34, .int (nI q), .int (nI t)] w := fun hd ea => by
        rw [ea] at a6
        rw [hd] at b7
        exact agr_q hp ok X M (v := -2) (e_X8_swap.trans (p_X8_swap_0FTF_R hp x5 a1 (by decide) x5 a2 (by decide) a5 x5 a6 oI_none')) (xch.refl w)
          (fun w' M' => ⟨_, e_X9_swap.trans (p_X9_swap_0FTT_R (b1 w' M') (by decide) (b2 w' M') (by decide) hv (b6 w' M') hv (b7 w' M') rfl), mch.thr w', M'.2.2.2.2.2.2.2.1.thr⟩)
      match hrs : rs t with
      | [] => exact few (by rw [hrs]; rfl) (by rw [hrs]; rfl)
      | [a] => exact few (by rw [hrs]; rfl) (by rw [hrs]; rfl)
      | a :: b :: r =>
        rw [hrs] at a5 a6 b6 b7 hr hr5
        have ha := hr.hd
        have hb0 := hr.tl.hd
        have n9 : ¬ spI ((a :: b :: r).drop 1) = -9 := fun h => absurd ((spI_9 hr5.tl.2).mp h) (by simp)
        have c1 := fun w' (M' : MR c rs sp us im ht bt n tr w') => m_may (d := 38) M'.thr.1 hc hq (s := a) (by omega)
        have c2 := fun w' (M' : MR c rs sp us im ht bt n tr w') => m_may (d := 38) M'.thr.1 hc hq (s := b) (by omega)
        have em := may_q2 hc hq (a := a) (b := b) (by omega) (by omega)
        have no : mayOne c (2 ^ q) (2 ^ a ||| 2 ^ b) = false → af c (2 ^ q) (a :: b :: r) 6 = none := fun h => by
          unfold af; rw [if_neg (by decide), if_neg (by decide), if_pos rfl]; dsimp only; rw [h]; rfl
        rcases b2i_cases ((c 5 q).testBit a) with ⟨hb1, hm1⟩ | ⟨hb1, hm1⟩
        · rw [hm1] at c1
          rcases b2i_cases ((c 5 q).testBit b) with ⟨hb2, hm2⟩ | ⟨hb2, hm2⟩
          · rw [hm2] at c2
            rw [hb1, hb2] at em
            have ea : af c (2 ^ q) (a :: b :: r) 6 = some (b :: a :: r) := af_swap' em
            rw [ea] at a6
            have a7 := s_costOf (d := 36) (set := 2 ^ q) (x := 6) (q := b :: a :: r) hp X1 hc hr (by decide) ea
            have ec : cst c (a :: b :: r) 6 = c 0 3 := rfl
            rw [ec] at a7
            have hr2 : okr (c 0 0) (b :: a :: r) := af_ok hr (by decide) ea
            have hr25 := hr2.five hc
            refine agr_word (v := nI b) (t := t) (cost := c 0 3) (r := b :: a :: r) hp ok X M ht1 hr2 (fun w2 e => e_X8_swap.trans (p_X8_swap_0FTT_R hp x5 a1 (by decide) x5 a2 (by decide) a5 x5 a6 (oI_some hr25) x5 a7 e (s_top (d := 38) hr25))) (fun w' w3 M' f e => ?_)
            have e4 : (updI w' 34 0 0).1 39 3 = nI (c 0 3) := M'.thr.1.2.2.2.1
            have e5 : sem 39 165 [.int ((updI w' 34 0 0).1 40 (nI t).toNatClampNeg)] (updI w' 34 0 0) = some (some (.int (nI (cm (b :: a :: r)))), updI w' 34 0 0) := by
              rw [g w' M', hrs]; exact m_swapped (d := 38) hr5
            rw [← e4] at e
            exact e_X9_swap.trans (p_X9_swap_0FTFFT_R (b1 w' M') (by decide) (b2 w' M') (by decide) hv (b6 w' M') hv (b7 w' M') n9 (c1 w' M') (by decide) (c2 w' M') (by decide) hv e5 e)
          · rw [hm2] at c2
            rw [hb1, hb2] at em
            have ea := no em
            rw [ea] at a6
            exact agr_q hp ok X M (v := -2) (e_X8_swap.trans (p_X8_swap_0FTF_R hp x5 a1 (by decide) x5 a2 (by decide) a5 x5 a6 oI_none')) (xch.refl w)
              (fun w' M' => ⟨_, e_X9_swap.trans (p_X9_swap_0FTFFF_R (b1 w' M') (by decide) (b2 w' M') (by decide) hv (b6 w' M') hv (b7 w' M') n9 (c1 w' M') (by decide) (c2 w' M') rfl), mch.thr w', M'.2.2.2.2.2.2.2.1.thr⟩)
        · rw [hm1] at c1
          rw [hb1] at em
          have ea := no em
          rw [ea] at a6
          exact agr_q hp ok X M (v := -2) (e_X8_swap.trans (p_X8_swap_0FTF_R hp x5 a1 (by decide) x5 a2 (by decide) a5 x5 a6 oI_none')) (xch.refl w)
            (fun w' M' => ⟨_, e_X9_swap.trans (p_X9_swap_0FTFT_R (b1 w' M') (by decide) (b2 w' M') (by decide) hv (b6 w' M') hv (b7 w' M') n9 (c1 w' M') rfl), mch.thr w', M'.2.2.2.2.2.2.2.1.thr⟩)
    · exact agr_q hp ok X M (v := -1) (e_X8_swap.trans (p_X8_swap_0FF_R hp x5 a1 (by decide) x5 (x_isThing0 (d := 38) hp X1 hc h2) rfl)) (xch.refl w)
        (fun w' M' => ⟨_, e_X9_swap.trans (p_X9_swap_0FF_R (b1 w' M') (by decide) (m_isThing0 (d := 37) M'.thr.1 hc h2) rfl), mch.thr w', M'.2.2.2.2.2.2.2.1.thr⟩)
  · exact agr_q hp ok X M (v := -1) (e_X8_swap.trans (p_X8_swap_0T_R hp x5 (x_isPupil0 (d := 38) hp X1 hc h1) rfl)) (xch.refl w)
      (fun w' M' => ⟨_, e_X9_swap.trans (p_X9_swap_0T_R (m_isPupil0 (d := 37) M'.thr.1 hc h1) rfl), mch.thr w', M'.2.2.2.2.2.2.2.1.thr⟩)
end WORDS2

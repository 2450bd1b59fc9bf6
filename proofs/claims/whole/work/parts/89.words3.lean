/-! words: copy, undo agree -/
section WORDS3
variable {w : Wd}
theorem tpI_neg : tpI [] < 0 := by decide
theorem tpI_nn {s : Nat} {r : List Nat} (h : s < 5) : ¬ tpI (s :: r) < 0 := nI_pos (by omega)
theorem agr_copy {x1 x2 x3 : Int32} (J : Jn w) : agr 112 167 [.ref 0, .int x1, .int x2, .int x3] [.ref 34, .int x1, .int x2, .int x3] w := by
  obtain ⟨p, c, rs, sp, us, im, ht, bt, n, tr, hp, ok, X, M⟩ := J
  have hc := ok.1
  have h3 := hc.2.2.1
  have h4 := hc.2.1
  have h5 := hc.1
  have X1 := X.1
  have x5 := X.2.2.2.2.2.1
  rcases in_cs (x := x1) (N := c 0 2) (by omega) with ⟨q, hq, rfl⟩ | h1
  · have a1 := x_isPupil1 (d := 38) hp X1 hc hq
    have b1 := fun w' (M' : MR c rs sp us im ht bt n tr w') => m_isPupil1 (d := 37) M'.thr.1 hc hq
    rcases in_cs (x := x2) (N := c 0 1) (by omega) with ⟨f, hf1, rfl⟩ | h2
    · have a2 := x_isThing1 (d := 38) hp X1 hc hf1
      have b2 := fun w' (M' : MR c rs sp us im ht bt n tr w') => m_isThing1 (d := 37) M'.thr.1 hc hf1
      rcases in_cs (x := x3) (N := c 0 1) (by omega) with ⟨t, ht1, rfl⟩ | h3
      · have a3 := x_isThing1 (d := 38) hp X1 hc ht1
        have b3 := fun w' (M' : MR c rs sp us im ht bt n tr w') => m_isThing1 (d := 37) M'.thr.1 hc ht1
        by_cases hft : nI f = nI t
        · exact agr_q hp ok X M (v := -1) (e_X8_copy.trans (p_X8_copy_0FFFF_R hp x5 a1 (by decide) x5 a2 (by decide) x5 a3 (by decide) hft)) (xch.refl w)
            (fun w' M' => ⟨_, e_X9_copy.trans (p_X9_copy_0FFFF_R (b1 w' M') (by decide) (b2 w' M') (by decide) (b3 w' M') (by decide) hft), mch.thr w', M'.2.2.2.2.2.2.2.1.thr⟩)
        · have hr := ok.2.1.1 f (by omega)
          have hr5 := hr.five hc
          have a4 := s_rowOf (d := 37) X.2.1.1 (t := f) (by omega)
          have a5 := s_top (d := 38) (w := w) hr5
          have hv : vp_in (nI f) 5 := vp_in_nI (by omega) (by decide)
          have g : ∀ w', MR c rs sp us im ht bt n tr w' → (updI w' 34 0 0).1 40 (nI f).toNatClampNeg = nI (cm (rs f)) := fun w' M' => by
            rw [nI_clamp (by omega)]
            exact M'.thr.2.1.1 f (by omega)
          have b4 : ∀ w', MR c rs sp us im ht bt n tr w' → sem 39 158 [.int ((updI w' 34 0 0).1 40 (nI f).toNatClampNeg), .int 0] (updI w' 34 0 0) = some (some (.int (spI (rs f))), updI w' 34 0 0) := fun w' M' => by
            rw [g w' M']; exact m_spellAt (d := 38) (n := 0) hr5 (by decide)
          cases hrs : rs f with
          | nil =>
            rw [hrs] at a4 a5 b4
            exact agr_q hp ok X M (v := -2) (e_X8_copy.trans (p_X8_copy_0FFFTT_R hp x5 a1 (by decide) x5 a2 (by decide) x5 a3 (by decide) hft a4 a5 tpI_neg)) (xch.refl w)
              (fun w' M' => ⟨_, e_X9_copy.trans (p_X9_copy_0FFFTT_R (b1 w' M') (by decide) (b2 w' M') (by decide) (b3 w' M') (by decide) hft hv (b4 w' M') rfl), mch.thr w', M'.2.2.2.2.2.2.2.1.thr⟩)
          | cons s r =>
            rw [hrs] at a4 a5 b4 hr hr5
            have hs := hr.hd
            have n9 : ¬ spI (s :: r) = -9 := fun h => absurd ((spI_9 hr5.2).mp h) (by simp)
            have nn : ¬ tpI (s :: r) < 0 := tpI_nn (by omega)
            have a6 := s_maySay (d := 36) (set := 2 ^ q) (s := s) hp X1 hc (Nat.pow_lt_pow_right (by decide) (by omega)) (by omega)
            rw [← i_pow (by omega), may_q hc hq (by omega)] at a6
            have b6 := fun w' (M' : MR c rs sp us im ht bt n tr w') => m_may (d := 38) M'.thr.1 hc hq (s := s) (by omega)
            rcases b2i_cases ((c 5 q).testBit s) with ⟨_, hm⟩ | ⟨_, hm⟩
            · rw [hm] at a6 b6
              have kr := ok.2.1.1 t (by omega)
              have kr5 := kr.five hc
              have a7 := s_rowOf (d := 37) X.2.1.1 (t := t) (by omega)
              have a8 := s_isFull (d := 38) (w := w) kr5
              have hvt : vp_in (nI t) 5 := vp_in_nI (by omega) (by decide)
              have gt : ∀ w', MR c rs sp us im ht bt n tr w' → (updI w' 34 0 0).1 40 (nI t).toNatClampNeg = nI (cm (rs t)) := fun w' M' => by
                rw [nI_clamp (by omega)]
                exact M'.thr.2.1.1 t (by omega)
              have b7 : ∀ w', MR c rs sp us im ht bt n tr w' → sem 39 155 [.int ((updI w' 34 0 0).1 40 (nI t).toNatClampNeg)] (updI w' 34 0 0) = some (some (.int (nI (rs t).length)), updI w' 34 0 0) := fun w' M' => by
                rw [gt w' M']; exact m_layersOf (d := 38) kr5
              by_cases hf : (rs t).length = 5
              · rw [if_pos hf] at a8
                exact agr_q hp ok X M (v := -3) (e_X8_copy.trans (p_X8_copy_0FFFTFTF_R hp x5 a1 (by decide) x5 a2 (by decide) x5 a3 (by decide) hft a4 a5 nn x5 a6 (by decide) a7 a8 (by decide))) (xch.refl w)
                  (fun w' M' => ⟨_, e_X9_copy.trans (p_X9_copy_0FFFTFTF_R (b1 w' M') (by decide) (b2 w' M') (by decide) (b3 w' M') (by decide) hft hv (b4 w' M') n9 (b6 w' M') (by decide) hvt (b7 w' M') (by rw [hf]; rfl)), mch.thr w', M'.2.2.2.2.2.2.2.1.thr⟩)
              · rw [if_neg hf] at a8
                have a9 : sem 39 57 [.ref p] w = some (some (.int (nI (c 0 4))), w) := by
                  rw [← X1.2.2.2.2.1]; exact e_X5_costOfCopy.trans (p_X5_costOfCopy_0_R hp)
                have hl := kr.1
                have hr2 : okr (c 0 0) (s :: rs t) := ⟨by simp only [List.length_cons]; omega, fun z hz => (List.mem_cons.mp hz).elim (fun h => by rw [h]; exact hs) (kr.2 z)⟩
                refine agr_word (v := nI s) (t := t) (cost := c 0 4) (r := s :: rs t) hp ok X M ht1 hr2 (fun w2 e => e_X8_copy.trans (p_X8_copy_0FFFTFTT_R hp x5 a1 (by decide) x5 a2 (by decide) x5 a3 (by decide) hft a4 a5 nn x5 a6 (by decide) a7 a8 rfl s_with x5 a9 e)) (fun w' w3 M' f e => ?_)
                have ec : (updI w' 34 0 0).1 39 4 = nI (c 0 4) := M'.thr.1.2.2.2.2.1
                have er : ((6 * (updI w' 34 0 0).1 40 (nI t).toNatClampNeg) + spI (s :: r)) + 1 = nI (cm (s :: rs t)) := by
                  rw [gt w' M']
                  show ((6 * nI (cm (rs t))) + nI s) + 1 = nI (cm (s :: rs t))
                  have k1 : nI (cm (rs t)) * 6 = nI (cm (rs t) * 6) := pk_mul _ 6
                  rw [Int32.mul_comm, k1, nI_add, nI_1, Nat.mul_comm]
                  rfl
                rw [← er, ← ec] at e
                exact e_X9_copy.trans (p_X9_copy_0FFFTFTT_R (b1 w' M') (by decide) (b2 w' M') (by decide) (b3 w' M') (by decide) hft hv (b4 w' M') n9 (b6 w' M') (by decide) hvt (b7 w' M') (fun h => hf ((nI_eq (b := 5) (by omega) (by decide)).mp h)) hvt e)
            · rw [hm] at a6 b6
              exact agr_q hp ok X M (v := -2) (e_X8_copy.trans (p_X8_copy_0FFFTFF_R hp x5 a1 (by decide) x5 a2 (by decide) x5 a3 (by decide) hft a4 a5 nn x5 a6 rfl)) (xch.refl w)
                (fun w' M' => ⟨_, e_X9_copy.trans (p_X9_copy_0FFFTFF_R (b1 w' M') (by decide) (b2 w' M') (by decide) (b3 w' M') (by decide) hft hv (b4 w' M') n9 (b6 w' M') rfl), mch.thr w', M'.2.2.2.2.2.2.2.1.thr⟩)
      · exact agr_q hp ok X M (v := -1) (e_X8_copy.trans (p_X8_copy_0FFT_R hp x5 a1 (by decide) x5 a2 (by decide) x5 (x_isThing0 (d := 38) hp X1 hc h3) rfl)) (xch.refl w)
          (fun w' M' => ⟨_, e_X9_copy.trans (p_X9_copy_0FFT_R (b1 w' M') (by decide) (b2 w' M') (by decide) (m_isThing0 (d := 37) M'.thr.1 hc h3) rfl), mch.thr w', M'.2.2.2.2.2.2.2.1.thr⟩)
    · exact agr_q hp ok X M (v := -1) (e_X8_copy.trans (p_X8_copy_0FT_R hp x5 a1 (by decide) x5 (x_isThing0 (d := 38) hp X1 hc h2) rfl)) (xch.refl w)
        (fun w' M' => ⟨_, e_X9_copy.trans (p_X9_copy_0FT_R (b1 w' M') (by decide) (m_isThing0 (d := 37) M'.thr.1 hc h2) rfl), mch.thr w', M'.2.2.2.2.2.2.2.1.thr⟩)
  · exact agr_q hp ok X M (v := -1) (e_X8_copy.trans (p_X8_copy_0T_R hp x5 (x_isPupil0 (d := 38) hp X1 hc h1) rfl)) (xch.refl w)
      (fun w' M' => ⟨_, e_X9_copy.trans (p_X9_copy_0T_R (m_isPupil0 (d := 37) M'.thr.1 hc h1) rfl), mch.thr w', M'.2.2.2.2.2.2.2.1.thr⟩)
theorem agr_undo (J : Jn w) : agr 113 168 [.ref 0] [.ref 34] w := by
  obtain ⟨p, c, rs, sp, us, im, ht, bt, n, tr, hp, ok, X, M⟩ := J
  cases us with
  | nil =>
    refine agr_q hp ok X M (v := -2) (e_X8_undo.trans (p_X8_undo_0T_R (s_takeBack0 (d := 38) X.2.1.2.1) rfl)) (xch.refl w) (fun w' M' => ?_)
    exact ⟨_, e_X9_undo.trans (p_X9_undo_0F_R (by rw [M'.2.2.1.1]; rfl)), mch.thr w', M'.2.2.2.2.2.2.2.1.thr⟩
  | cons u us =>
    obtain ⟨hc, ⟨o1, ⟨o2, o3⟩, o4⟩, k2, k3, k4, k5, k6⟩ := ok
    have h4 := hc.2.1
    simp only [List.length_cons] at o2
    have hu := o3 u List.mem_cons_self
    have hu1 := k3 u List.mem_cons_self
    obtain ⟨w2, a1, a2, a3⟩ := s_takeBack (d := 37) X.2.1 (by omega) hu.1
    have e1 := s_known (d := 38) a3.2.1
    have ok2 : okZ c (upR rs u.1 u.2.1) us im ht bt n := by
      refine ⟨hc, ⟨fun k hk => ?_, ⟨by omega, fun z hz => o3 z (List.mem_cons_of_mem _ hz)⟩, o4⟩, fun k g1 g2 => ?_, fun z hz => k3 z (List.mem_cons_of_mem _ hz), k4, k5, k6⟩
      · unfold upR
        split
        · exact hu.2
        · exact o1 k hk
      · unfold upR
        rw [if_neg (by omega)]
        exact k2 k g1 g2
    refine agr_s hp ok2 M (e_X8_undo.trans (p_X8_undo_0F_R a1 (by decide) e1)) (fun q hq => a2 q (by omega)) (X.shf hp (a2.wide (by decide) (by decide)) a3) (fun w' M' => ?_)
    obtain ⟨U1, U2⟩ := M'.2.2.1
    have q0 := U2 0 (Nat.succ_pos _)
    simp only [List.length_cons] at U1 q0
    rw [show 3 * (us.length + 1 - 1 - 0) = 3 * us.length by omega] at q0
    obtain ⟨q1, q2, q3⟩ := q0
    have q1 : w'.1 43 (3 * us.length) = nI u.1 := q1
    have q2 : w'.1 43 (3 * us.length + 1) = nI (cm u.2.1) := q2
    have q3 : w'.1 43 (3 * us.length + 2) = nI u.2.2 := q3
    have em : (w'.1 34 23) - 1 = nI us.length := by rw [U1]; exact nI_pred _
    have e3 : 3 * ((w'.1 34 23) - 1) = nI (3 * us.length) := by rw [em]; exact pk_mul 3 us.length
    have e31 : 3 * ((w'.1 34 23) - 1) + 1 = nI (3 * us.length + 1) := by rw [e3, nI_1]
    have e32 : 3 * ((w'.1 34 23) - 1) + 2 = nI (3 * us.length + 2) := by rw [e3]; exact nI_add _ 2
    have c0 : (3 * ((w'.1 34 23) - 1)).toNatClampNeg = 3 * us.length := by rw [e3, nI_clamp (by omega)]
    have c1 : (3 * ((w'.1 34 23) - 1) + 1).toNatClampNeg = 3 * us.length + 1 := by rw [e31, nI_clamp (by omega)]
    have c2 : (3 * ((w'.1 34 23) - 1) + 2).toNatClampNeg = 3 * us.length + 2 := by rw [e32, nI_clamp (by omega)]
    have t := p_X9_undo_0T_R (ex := sem 39) (w := w') (by rw [U1]; exact nI_ne0 (by omega) (by omega)) (by rw [e3]; exact vp_in_nI (by omega) (by decide)) (by rw [e31]; exact vp_in_nI (by omega) (by decide)) (by rw [c0, q1]; exact vp_in_nI (by omega) (by decide)) (by rw [e32]; exact vp_in_nI (by omega) (by decide))
    rw [c0, c1, c2, em, q1, q2, q3, nI_clamp (by omega)] at t
    refine ⟨_, e_X9_undo.trans t, fun q hq => ⟨?_, rfl⟩, M'.bch ⟨fun q q1 q2 q3 => ?_, fun j j0 j1 => ?_, rfl⟩ ⟨fun k hk => ?_, rd_e⟩ ⟨?_, fun i hi => ?_⟩⟩
    · funext z
      rw [rd_n (by omega), rd_n (by omega), rd_n (by omega), rd_n (by omega)]
    · funext z
      rw [rd_n q2, rd_n q2, rd_n q1, rd_n q1]
    · rw [rd_n (by decide), rd_n (by decide), rd_k j1, rd_k j0]
    · rw [rd_k (by omega)]
      unfold upR
      by_cases e : k = u.1
      · rw [e, rd_e, if_pos rfl]
      · rw [rd_k e, if_neg e, rd_n (by decide), rd_n (by decide)]
        exact M'.2.1.1 k hk
    · rw [rd_n (by decide), rd_n (by decide), rd_e]
    · have q := U2 (i + 1) (by simp only [List.length_cons]; omega)
      simp only [List.length_cons] at q
      rw [show 3 * (us.length + 1 - 1 - (i + 1)) = 3 * (us.length - 1 - i) by omega] at q
      refine ⟨?_, ?_, ?_⟩
      · rw [rd_n (by decide), rd_n (by decide), rd_n (by decide), rd_n (by decide)]; exact q.1
      · rw [rd_n (by decide), rd_n (by decide), rd_n (by decide), rd_n (by decide)]; exact q.2.1
      · rw [rd_n (by decide), rd_n (by decide), rd_n (by decide), rd_n (by decide)]; exact q.2.2
end WORDS3

/-! broom agrees: both -/
section BROOM
variable {p : Nat} {c : Nat → Nat → Nat} {rs : Nat → List Nat} {sp : Nat} {us : List (Nat × List Nat × Nat)} {im : Nat → Option ((Nat → List Nat) × Nat)} {ht : List (Nat × Nat)} {bt : Nat → Nat} {n0 : Nat} {tr : Int64} {w w2 : Wd}
/-- what is found first -/
def brI (c : Nat → Nat → Nat) (a b x n : Nat) (r : List Nat) : Int32 :=
  match n with
  | 0 => if (wk c r).testBit x = true then 0 else -9
  | m + 1 => fstW (fstB c a b x m r) 8 8
theorem brI_9 {a b x n : Nat} {r : List Nat} : brI c a b x n r = -9 ↔ won c a b x n true r = false := by
  cases n with
  | zero =>
    show (if (wk c r).testBit x = true then (0 : Int32) else -9) = -9 ↔ (wk c r).testBit x = false
    cases (wk c r).testBit x with
    | true => exact ⟨fun h => absurd h (by decide), fun h => absurd h (by decide)⟩
    | false => exact ⟨fun _ => rfl, fun _ => rfl⟩
  | succ m =>
    have e : won c a b x (m + 1) true r = exN (fstB c a b x m r) 8 := by
      show (if exN (wonS c (2 ^ (if true = true then a else b)) r true (won c a b x m (!true))) 8 = true then true else !true) = _
      have e2 : (fstB c a b x m r) = wonS c (2 ^ a) r true (won c a b x m false) := rfl
      rw [e2]
      cases h : exN (wonS c (2 ^ a) r true (won c a b x m false)) 8 with
      | true => exact if_pos h
      | false => exact if_neg (by show ¬ exN (wonS c (2 ^ a) r true (won c a b x m false)) 8 = true; rw [h]; decide)
    rw [e]
    show fstW (fstB c a b x m r) 8 8 = -9 ↔ _
    have key : ∀ (f : Nat → Bool) (m : Nat), m ≤ 8 → (∀ k, k < 8 - m → f k = false) → isF f 8 (fstW f 8 m) := by
      intro f m
      induction m with
      | zero => intro _ hf; exact Or.inr ⟨hf, rfl⟩
      | succ m ih =>
        intro hm hf
        unfold fstW
        by_cases hj : f (8 - (m + 1)) = true
        · rw [if_pos hj]
          exact Or.inl ⟨_, by omega, hj, hf, rfl⟩
        · rw [if_neg hj]
          refine ih (by omega) (fun k hk => ?_)
          by_cases e : k = 8 - (m + 1)
          · rw [e]; simpa using hj
          · exact hf k (by omega)
    exact (key _ 8 (by decide) (fun k h => absurd h (Nat.not_lt_zero _))).ex (by decide)
theorem m_played {a b n x t : Nat} (hc : okc c) (ha : a < 3) (hb3 : b < 3) (hn : n ≤ 4) (hx : x < 10) (ht4 : t < 4) (hr : okr (c 0 0) (rs t)) (M : MR c rs sp us im ht bt n0 tr w) :
    ∃ w2, sem 39 189 [.ref 34, .int (nI t), .int (nI a), .int (nI b), .int (nI n), .int (nI x)] w = some (some (.int (brI c a b x n (rs t))), w2) ∧ mch w w2 ∧ MCa c w2 := by
  have hct : w.1 40 (nI t).toNatClampNeg = nI (cm (rs t)) := by rw [nI_clamp (by omega)]; exact M.2.1.1 t ht4
  have hv : vp_in (nI t) 5 := vp_in_nI (by omega) (by decide)
  obtain ⟨z1, z2, z3, z4⟩ := cbeg_all 0 n (cm (rs t)) w
  have C0 : MCa c (cbeg 0 n (cm (rs t)) w) := cbeg_MCa M.2.2.2.2.2.2.2.1
  obtain ⟨w1, a1, a2, a3, a4, a5⟩ := l_node (x := x) hc ha hb3 hn hx n 0 (rs t) true 0 (.int (nI t)) .null .null .null .null (cbeg 0 n (cm (rs t)) w) (by decide) (by omega) hr z3 (M.1.pfr z1) C0 z4
  refine ⟨w1, ?_, (z1.trans a2).mch, a4⟩
  refine e_X9_played.trans ?_
  have ent : runs (T_X9_played (sem 38)) (0, [.ref 34, .int (nI t), .int (nI a), .int (nI b), .int (nI n), .int (nI x), .null, .null, .null, .null, .null, .null], [], w) = plR a b n x 0 0 (.int (nI t)) .null .null .null .null (cbeg 0 n (cm (rs t)) w) := by
    by_cases h0 : n = 0
    · subst h0
      have t1 := p_X9_played_0T_L38 (ex := sem 38) (x1 := nI t) (x2 := nI a) (x3 := nI b) (x4 := nI 0) (x5 := nI x) (w := w) hv (by decide)
      rw [hct] at t1
      exact t1
    · have t1 := p_X9_played_0F_L38 (ex := sem 38) (x1 := nI t) (x2 := nI a) (x3 := nI b) (x4 := nI n) (x5 := nI x) (w := w) hv (nI_nle (by omega) (by omega))
      rw [hct] at t1
      have e : cbeg 0 n (cm (rs t)) w = updI (updI (updI w 50 0 (nI (cm (rs t)))) 51 0 (-1)) 52 0 (-9) := if_pos (by omega)
      rw [e]
      exact t1
  refine ent.trans (a1.trans ?_)
  cases n with
  | zero =>
    show _ = some (some (Value.int (if (wk c (rs t)).testBit x = true then (0 : Int32) else -9)), w1)
    have e : won c a b x 0 true (rs t) = (wk c (rs t)).testBit x := rfl
    rw [e]
    cases (wk c (rs t)).testBit x with
    | true => exact p_X9_played_38TFF_R (by decide) rfl rfl
    | false => exact p_X9_played_38TFT_R (by decide) rfl (by decide)
  | succ m =>
    have W := a5 m rfl
    unfold Wp at W
    rw [if_pos rfl] at W
    show _ = some (some (Value.int (fstW (fstB c a b x m (rs t)) 8 8)), w1)
    have e := W.fst (by decide)
    refine (p_X9_played_38TT_R (by decide) (fun h => by rw [show (0 : Int32) = nI 0 from rfl, nI_eq (by omega) (by decide)] at h; omega)).trans ?_
    rw [e]
    rfl
theorem agr_broom {x1 x2 x3 x4 x5 x6 : Int32} (J : Jn w) : agr 123 190 [.ref 0, .int x1, .int x2, .int x3, .int x4, .int x5, .int x6] [.ref 34, .int x1, .int x2, .int x3, .int x4, .int x5, .int x6] w := by
  obtain ⟨p, c, rs, sp, us, im, ht, bt, n0, tr, hp, ok, X, M⟩ := J
  have hc := ok.1
  have h4 := hc.2.1
  have h3 := hc.2.2.1
  have X1 := X.1
  have y5 := X.2.2.2.2.2.1
  have cth := fun (w' : Wd) (M' : MR c rs sp us im ht bt n0 tr w') => M'.2.2.2.2.2.2.2.1.thr
  rcases in_cs (x := x1) (N := c 0 1) (by omega) with ⟨t, ht1, rfl⟩ | h1
  · have a1 := x_isThing1 (d := 38) hp X1 hc ht1
    have b1 := fun w' (M' : MR c rs sp us im ht bt n0 tr w') => m_isThing1 (d := 37) M'.thr.1 hc ht1
    rcases in_cs (x := x2) (N := c 0 2) (by omega) with ⟨a, ha, rfl⟩ | h2
    · have a2 := x_isPupil1 (d := 38) hp X1 hc ha
      have b2 := fun w' (M' : MR c rs sp us im ht bt n0 tr w') => m_isPupil1 (d := 37) M'.thr.1 hc ha
      rcases in_cs (x := x3) (N := c 0 2) (by omega) with ⟨b, hb, rfl⟩ | h3'
      · have a3 := x_isPupil1 (d := 38) hp X1 hc hb
        have b3 := fun w' (M' : MR c rs sp us im ht bt n0 tr w') => m_isPupil1 (d := 37) M'.thr.1 hc hb
        by_cases hab : nI a = nI b
        · exact agr_q hp ok X M (v := -1) (e_X8_broom.trans (p_X8_broom_0FFFF_R hp y5 a1 (by decide) y5 a2 (by decide) y5 a3 (by decide) hab)) (xch.refl w)
            (fun w' M' => ⟨_, e_X9_broom.trans (p_X9_broom_0FFFT_R (b1 w' M') (by decide) (b2 w' M') (by decide) (b3 w' M') (by decide) hab), mch.thr w', cth w' M'⟩)
        · rcases in_cs (x := x4) (N := 5) (by decide) with ⟨n, hn, rfl⟩ | h4'
          · have n0' := nI_pos (n := n) (by omega)
            have n4 : ¬ (4 : Int32) < nI n := nI_nlt (a := 4) (b := n) (by omega) (by decide)
            have b4 := fun w' => m_inL1 (w := updI w' 34 0 0) (d := 38) (N := 5) (hi := 4) (by decide) (by decide) hn
            rcases in_cs (x := x5) (N := 10) (by decide) with ⟨x, hx, rfl⟩ | h5'
            · have e0 := nI_pos (n := x) (by omega)
              have e9 : ¬ (10 : Int32) ≤ nI x := nI_ge (b := 10) hx (by decide)
              have b5 := fun w' => m_inL1 (w := updI w' 34 0 0) (d := 38) (N := 10) (hi := 9) (by decide) (by decide) hx
              rcases in_cs (x := x6) (N := 2) (by decide) with ⟨q, hq, rfl⟩ | h6'
              · have a6 := x_yn1 (w := w) (d := 38) hq
                have b6 := fun w' => m_inL1 (w := updI w' 34 0 0) (d := 38) (N := 2) (hi := 1) (by decide) (by decide) hq
                have hr := ok.2.1.1 t (by omega)
                have a7 := s_rowOf (d := 37) X.2.1.1 (t := t) (by omega)
                have pl := fun (w' : Wd) (M' : MR c rs sp us im ht bt n0 tr w') => m_played (w := updI w' 34 0 0) (a := a) (b := b) (n := n) (x := x) (t := t) hc (by omega) (by omega) (by omega) hx (by omega) hr M'.thr
                rcases (by omega : q = 0 ∨ q = 1) with rfl | rfl
                · have w0 := s_isWon (d := 34 - n) (w := w) (a := a) (b := b) (x := x) hp X1 hc (by omega) (by omega) hx n true (rs t) (by omega) hr
                  rw [show 34 - n + 5 + n = 39 by omega] at w0
                  cases hw : won c a b x n true (rs t) with
                  | true =>
                    rw [hw] at w0
                    refine agr_q hp ok X M (v := 1) (e_X8_broom.trans (p_X8_broom_0FFFTFFFFTFF_R hp y5 a1 (by decide) y5 a2 (by decide) y5 a3 (by decide) hab n0' n4 e0 e9 a6 (by decide) a7 rfl y5 w0 (by decide))) (xch.refl w) (fun w' M' => ?_)
                    obtain ⟨w3, c1, c2, c3⟩ := pl w' M'
                    exact ⟨w3, e_X9_broom.trans (p_X9_broom_0FFFFFFTFT_R (b1 w' M') (by decide) (b2 w' M') (by decide) (b3 w' M') (by decide) hab (b4 w') (by decide) (b5 w') (by decide) (b6 w') (by decide) c1 rfl (fun h => by rw [brI_9.mp h] at hw; exact absurd hw (by decide))), (mch.thr w').trans c2, c3⟩
                  | false =>
                    rw [hw] at w0
                    refine agr_q hp ok X M (v := 0) (e_X8_broom.trans (p_X8_broom_0FFFTFFFFTFT_R hp y5 a1 (by decide) y5 a2 (by decide) y5 a3 (by decide) hab n0' n4 e0 e9 a6 (by decide) a7 rfl y5 w0 rfl)) (xch.refl w) (fun w' M' => ?_)
                    obtain ⟨w3, c1, c2, c3⟩ := pl w' M'
                    exact ⟨w3, e_X9_broom.trans (p_X9_broom_0FFFFFFTFF_R (b1 w' M') (by decide) (b2 w' M') (by decide) (b3 w' M') (by decide) hab (b4 w') (by decide) (b5 w') (by decide) (b6 w') (by decide) c1 rfl (brI_9.mpr hw)), (mch.thr w').trans c2, c3⟩
                · cases n with
                  | zero =>
                    refine agr_q hp ok X M (v := -9) (e_X8_broom.trans (p_X8_broom_0FFFTFFFFTT_R hp y5 a1 (by decide) y5 a2 (by decide) y5 a3 (by decide) hab n0' n4 e0 e9 a6 (by decide) a7 (by decide) y5 (s_firstWord0 (d := 38) (r := rs t) hp))) (xch.refl w) (fun w' M' => ?_)
                    obtain ⟨w3, c1, c2, c3⟩ := pl w' M'
                    exact ⟨w3, e_X9_broom.trans (p_X9_broom_0FFFFFFTTF_R (b1 w' M') (by decide) (b2 w' M') (by decide) (b3 w' M') (by decide) hab (b4 w') (by decide) (b5 w') (by decide) (b6 w') (by decide) c1 (by decide) rfl), (mch.thr w').trans c2, c3⟩
                  | succ m =>
                    have w0 := s_firstWord (d := 33 - m) (w := w) (a := a) (b := b) (x := x) (n := m) (r := rs t) hp X1 hc (by omega) (by omega) hx (by omega) hr
                    rw [show 33 - m + 6 + m = 39 by omega] at w0
                    refine agr_q hp ok X M (e_X8_broom.trans (p_X8_broom_0FFFTFFFFTT_R hp y5 a1 (by decide) y5 a2 (by decide) y5 a3 (by decide) hab n0' n4 e0 e9 a6 (by decide) a7 (by decide) y5 w0)) (xch.refl w) (fun w' M' => ?_)
                    obtain ⟨w3, c1, c2, c3⟩ := pl w' M'
                    exact ⟨w3, e_X9_broom.trans (p_X9_broom_0FFFFFFTTT_R (b1 w' M') (by decide) (b2 w' M') (by decide) (b3 w' M') (by decide) hab (b4 w') (by decide) (b5 w') (by decide) (b6 w') (by decide) c1 (by decide) (fun h => by rw [show (0 : Int32) = nI 0 from rfl, nI_eq (by omega) (by decide)] at h; omega)), (mch.thr w').trans c2, c3⟩
              · exact agr_q hp ok X M (v := -1) (e_X8_broom.trans (p_X8_broom_0FFFTFFFFF_R hp y5 a1 (by decide) y5 a2 (by decide) y5 a3 (by decide) hab n0' n4 e0 e9 (x_yn0 (d := 38) h6') rfl)) (xch.refl w)
                  (fun w' M' => ⟨_, e_X9_broom.trans (p_X9_broom_0FFFFFFF_R (b1 w' M') (by decide) (b2 w' M') (by decide) (b3 w' M') (by decide) hab (b4 w') (by decide) (b5 w') (by decide) (m_inL0 (d := 38) (N := 2) (by decide) (by decide) h6') rfl), mch.thr w', cth w' M'⟩)
            · have b5 := fun w' : Wd => m_inL0 (w := updI w' 34 0 0) (d := 38) (N := 10) (hi := 9) (by decide) (by decide) h5'
              have fm := fun (w' : Wd) (M' : MR c rs sp us im ht bt n0 tr w') => e_X9_broom.trans (p_X9_broom_0FFFFFT_R (x6 := x6) (b1 w' M') (by decide) (b2 w' M') (by decide) (b3 w' M') (by decide) hab (b4 w') (by decide) (b5 w') rfl)
              rcases out_cs h5' with g | ⟨g1, g2⟩
              · exact agr_q hp ok X M (v := -1) (e_X8_broom.trans (p_X8_broom_0FFFTFFT_R hp y5 a1 (by decide) y5 a2 (by decide) y5 a3 (by decide) hab n0' n4 g)) (xch.refl w) (fun w' M' => ⟨_, fm w' M', mch.thr w', cth w' M'⟩)
              · exact agr_q hp ok X M (v := -1) (e_X8_broom.trans (p_X8_broom_0FFFTFFFT_R hp y5 a1 (by decide) y5 a2 (by decide) y5 a3 (by decide) hab n0' n4 g1 g2)) (xch.refl w) (fun w' M' => ⟨_, fm w' M', mch.thr w', cth w' M'⟩)
          · have b4 := fun w' : Wd => m_inL0 (w := updI w' 34 0 0) (d := 38) (N := 5) (hi := 4) (by decide) (by decide) h4'
            have fm := fun (w' : Wd) (M' : MR c rs sp us im ht bt n0 tr w') => e_X9_broom.trans (p_X9_broom_0FFFFT_R (x5 := x5) (x6 := x6) (b1 w' M') (by decide) (b2 w' M') (by decide) (b3 w' M') (by decide) hab (b4 w') rfl)
            rcases out_cs h4' with g | ⟨g1, g2⟩
            · exact agr_q hp ok X M (v := -1) (e_X8_broom.trans (p_X8_broom_0FFFTT_R hp y5 a1 (by decide) y5 a2 (by decide) y5 a3 (by decide) hab g)) (xch.refl w) (fun w' M' => ⟨_, fm w' M', mch.thr w', cth w' M'⟩)
            · have g3 : (4 : Int32) < x4 := by
                rw [fa_lt]
                rw [fa_le] at g2
                have k1 : (nI 5).toInt = 5 := by decide
                have k2 : (4 : Int32).toInt = 4 := by decide
                omega
              exact agr_q hp ok X M (v := -1) (e_X8_broom.trans (p_X8_broom_0FFFTFT_R hp y5 a1 (by decide) y5 a2 (by decide) y5 a3 (by decide) hab g1 g3)) (xch.refl w) (fun w' M' => ⟨_, fm w' M', mch.thr w', cth w' M'⟩)
      · exact agr_q hp ok X M (v := -1) (e_X8_broom.trans (p_X8_broom_0FFT_R hp y5 a1 (by decide) y5 a2 (by decide) y5 (x_isPupil0 (d := 38) hp X1 hc h3') rfl)) (xch.refl w)
          (fun w' M' => ⟨_, e_X9_broom.trans (p_X9_broom_0FFT_R (b1 w' M') (by decide) (b2 w' M') (by decide) (m_isPupil0 (d := 37) M'.thr.1 hc h3') rfl), mch.thr w', cth w' M'⟩)
    · exact agr_q hp ok X M (v := -1) (e_X8_broom.trans (p_X8_broom_0FT_R hp y5 a1 (by decide) y5 (x_isPupil0 (d := 38) hp X1 hc h2) rfl)) (xch.refl w)
        (fun w' M' => ⟨_, e_X9_broom.trans (p_X9_broom_0FT_R (b1 w' M') (by decide) (m_isPupil0 (d := 37) M'.thr.1 hc h2) rfl), mch.thr w', cth w' M'⟩)
  · exact agr_q hp ok X M (v := -1) (e_X8_broom.trans (p_X8_broom_0T_R hp y5 (x_isThing0 (d := 38) hp X1 hc h1) rfl)) (xch.refl w)
      (fun w' M' => ⟨_, e_X9_broom.trans (p_X9_broom_0T_R (m_isThing0 (d := 37) M'.thr.1 hc h1) rfl), mch.thr w', cth w' M'⟩)
end BROOM

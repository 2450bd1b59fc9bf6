/-! the reference: the whole text -/
section MITEMS
variable {d : Nat} {bt : Nat → Nat} {n : Nat}
/-- how reading ends -/
def endO (bt : Nat → Nat) (n i it : Nat) (ns : List Nat) (D : Dr) (x : Int32) (w2 : Wd) : Prop :=
  (∃ f, FW f w2 ∧ PR bt n i (0, ns, D, it) = .inl f) ∨ ∃ j ns2 D2 it2, RW bt n j w2 ∧ tkK bt n j = 1 ∧ x = nI it2 ∧ MD D2 w2 ∧ okD D2 ∧ PR bt n i (0, ns, D, it) = .inr (0, ns2, D2, it2)
theorem l_items (ho : okt bt n) : ∀ (m i it : Nat) (ns : List Nat) (D : Dr) (v2 : Value) (w : Wd), n - i < m → MT bt n w → RW bt n i w → MD D w → okD D →
    ∃ x v w2, runs (T_X9_school (sem (d + 7))) (59, [.ref 34, .int (nI it), v2], [], w) = runs (T_X9_school (sem (d + 7))) (59, [.ref 34, .int x, v], [], w2) ∧ rch w w2 ∧ endO bt n i it ns D x w2 := by
  intro m
  induction m with
  | zero => intro i it ns D v2 w h; exact absurd h (Nat.not_lt_zero _)
  | succ m ih =>
    intro i it ns D v2 w hm T R M ok
    obtain ⟨t1, t2, t3, t4, t5⟩ := tk_adv (bt := bt) R.1
    have hw := m_wellT (d := d + 6) R
    have K9 := tkK_le bt n i
    by_cases k1 : tkK bt n i = 1
    · exact ⟨_, _, w, rfl, rch.refl w, Or.inr ⟨i, ns, D, it, R, k1, rfl, M, ok, PR_end k1 rfl⟩⟩
    · have g5 : ¬ (w.1 34 5) = 0 := by rw [R.2.2.2.2.1]; exact fun h => k1 (mtk_eq.1.mp h)
      by_cases k4 : 4 ≤ tkK bt n i
      · have g1 : (w.1 34 5) = 1 := by rw [R.2.2.2.2.1]; exact mtk_eq.2.1.mpr k4
        have g7 := R.2.2.2.2.2.2 k4
        have mb := m_mayBegin (d := d + 6) M ok ⟨k4, K9⟩ g7
        cases hop : canOp D.1 (tkK bt n i) with
        | false =>
          rw [b2i_f hop] at mb
          obtain ⟨a1, a2⟩ := m_takes0 (d := d + 5) ho R
          have h3 : ¬ (updI w 34 8 (nI (tkS bt n i))).1 34 5 = 3 := by rw [rd_k (by decide), g1]; decide
          have t := p_X9_school_59FFFTTT_L59 (v2 := v2) (x1 := nI it) hw (by decide) g5 g1 mb rfl a1 (m_wellF (d := d + 6) a2) rfl h3 (m_takesF (d := d + 5) (x := 0) a2)
          exact ⟨_, _, _, t, (atg.fault w _).rch, Or.inl ⟨_, a2, PR_noop k1 (fun _ => hop)⟩⟩
        | true =>
          rw [b2i_t hop] at mb
          obtain ⟨w1, a1, a2, a3⟩ := m_takesT (d := d + 2) ho T R
          have T1 := T.atf a2
          have M1 := M.atg a2.atg
          rw [g7] at a1
          obtain ⟨w2, b1, b2, b3⟩ := m_readsItem (d := d) (it := it) ho T1 a3 M1 ok ⟨k4, K9⟩ hop
          have T2 := T1.rch b2
          have f12 : rch w w2 := a2.atg.rch.trans b2
          have E0 := PR_open (it := it) (ns := ns) R.1 k4 hop
          rcases b3 with ⟨j, ns2, j1, R2, E1, hwl, hc3, hN, M2⟩ | ⟨f, F2, E1⟩
          · by_cases k2 : tkK bt n j = 2
            · have g3 : (w2.1 34 5) = 3 := by rw [R2.2.2.2.2.1]; exact mtk_eq.2.2.2.mpr k2
              obtain ⟨w3, c1, c2, c3⟩ := m_takesT (d := d + 2) ho T2 R2
              have t := p_X9_school_59FFFFFF_L59 (v2 := v2) (x1 := nI it) hw (by decide) g5 g1 mb (by decide) a1 (m_wellT (d := d + 6) a3) (by decide) b1 g3 c1
              rw [nI_1] at t
              obtain ⟨u1, u2, u3, u4, u5⟩ := tk_adv (bt := bt) R2.1
              have hj := t5 k1
              obtain ⟨x, v, w4, e1, e2, e3⟩ := ih (tkE bt n j) (it + 1) ns2 (tellD (tkK bt n i) ns2 D) .null w3 (by omega) (T2.atf c2) c3 (M2.atg c2.atg) (tell_ok ok ⟨k4, K9⟩ hop hN hwl)
              have E : PR bt n i (0, ns, D, it) = PR bt n (tkE bt n j) (0, ns2, tellD (tkK bt n i) ns2 D, it + 1) := E0.trans (E1.trans (PR_close R2.1 (by omega) k2 hwl))
              refine ⟨x, v, w4, t.trans e1, f12.trans (c2.atg.rch.trans e2), ?_⟩
              unfold endO
              rw [E]
              exact e3
            · have g3 : ¬ (w2.1 34 5) = 3 := by rw [R2.2.2.2.2.1]; exact fun h => k2 (mtk_eq.2.2.2.mp h)
              obtain ⟨c1, c2⟩ := m_takes0 (d := d + 5) ho R2
              have t := p_X9_school_59FFFFFT_L59 (v2 := v2) (x1 := nI it) hw (by decide) g5 g1 mb (by decide) a1 (m_wellT (d := d + 6) a3) (by decide) b1 g3 c1
              exact ⟨_, _, _, t, f12.trans (atg.fault w2 _).rch, Or.inl ⟨_, c2, E0.trans (E1.trans (PR_no (by omega) hc3 (fun h => absurd h k2)))⟩⟩
          · by_cases g3 : (w2.1 34 5) = 3
            · have t := p_X9_school_59FFFFFF_L59 (v2 := v2) (x1 := nI it) hw (by decide) g5 g1 mb (by decide) a1 (m_wellT (d := d + 6) a3) (by decide) b1 g3 (m_takesF (d := d + 5) (x := 1) F2)
              exact ⟨_, _, _, t, f12, Or.inl ⟨f, F2, E0.trans E1⟩⟩
            · have t := p_X9_school_59FFFFFT_L59 (v2 := v2) (x1 := nI it) hw (by decide) g5 g1 mb (by decide) a1 (m_wellT (d := d + 6) a3) (by decide) b1 g3 (m_takesF (d := d + 5) (x := 0) F2)
              exact ⟨_, _, _, t, f12, Or.inl ⟨f, F2, E0.trans E1⟩⟩
      · have g1 : ¬ (w.1 34 5) = 1 := by rw [R.2.2.2.2.1]; exact fun h => k4 (mtk_eq.2.1.mp h)
        obtain ⟨a1, a2⟩ := m_takes0 (d := d + 5) ho R
        have E := PR_noop (bt := bt) (n := n) (i := i) (it := it) (ns := ns) (D := D) k1 (fun h => absurd h k4)
        by_cases h3 : (updI w 34 8 (nI (tkS bt n i))).1 34 5 = 3
        · have t := p_X9_school_59FFTTF_L59 (v2 := v2) (x1 := nI it) hw (by decide) g5 g1 a1 (m_wellF (d := d + 6) a2) rfl h3 (m_takesF (d := d + 5) (x := 1) a2)
          exact ⟨_, _, _, t, (atg.fault w _).rch, Or.inl ⟨_, a2, E⟩⟩
        · have t := p_X9_school_59FFTTT_L59 (v2 := v2) (x1 := nI it) hw (by decide) g5 g1 a1 (m_wellF (d := d + 6) a2) rfl h3 (m_takesF (d := d + 5) (x := 0) a2)
          exact ⟨_, _, _, t, (atg.fault w _).rch, Or.inl ⟨_, a2, E⟩⟩
/-- thrown and the draft's beginning -/
def thr (w w2 : Wd) : Prop := (∀ q, q ≠ 34 → q ≠ 39 → w2.1 q = w.1 q) ∧ (∀ j, j ≠ 0 → j ≠ 4 → j ≠ 8 → j ≠ 16 → j ≠ 17 → j ≠ 18 → w2.1 34 j = w.1 34 j) ∧ (∀ k, k < 6 → w2.1 39 k = w.1 39 k) ∧ w2.2 = w.2
theorem l_rules : ∀ (m k : Nat) (w : Wd), m + k = 12 → 6 ≤ k → (∀ j, 6 ≤ j → j < k → w.1 39 j = -9) → ∃ w2, runs (T_X9_school (sem (d + 7))) (35, [.ref 34, .int 0, .int (nI k)], [], w) = runs (T_X9_school (sem (d + 7))) (35, [.ref 34, .int 0, .int 12], [], w2) ∧ (∀ j, 6 ≤ j → j < 12 → w2.1 39 j = -9) ∧ (∀ q, q ≠ 39 → w2.1 q = w.1 q) ∧ (∀ j, j < 6 → w2.1 39 j = w.1 39 j) ∧ w2.2 = w.2 := by
  intro m
  induction m with
  | zero =>
    intro k w hk h6 hp
    have ek : k = 12 := by omega
    subst ek
    exact ⟨w, rfl, hp, fun _ _ => rfl, fun _ _ => rfl, rfl⟩
  | succ m ih =>
    intro k w hk h6 hp
    have t := p_X9_school_35F_L35 (ex := sem (d + 7)) (x1 := 0) (x2 := nI k) (w := w) (nI_ge (a := k) (b := 12) (by omega) (by decide)) (vp_in_nI (by omega) (by decide))
    rw [nI_clamp (by omega), nI_1] at t
    obtain ⟨w2, a1, a2, a3, a4, a5⟩ := ih (k + 1) (updI w 39 k (-9)) (by omega) (by omega) (fun j j1 j2 => by
      by_cases e : j = k
      · rw [e, rd_e]
      · rw [rd_k e]; exact hp j j1 (by omega))
    refine ⟨w2, t.trans a1, a2, fun q hq => ?_, fun j hj => ?_, a5⟩
    · rw [a3 q hq]; funext z; rw [rd_n hq]
    · rw [a4 j hj, rd_k (by omega)]
/-- reading, from the beginning: to the loop's last turn -/
theorem m_read {w : Wd} (ho : okt bt n) (T : MT bt n w) : ∃ x v w1 w2, runs (T_X9_school (sem (d + 7))) (0, [.ref 34, .null, .null], [], w) = runs (T_X9_school (sem (d + 7))) (59, [.ref 34, .int x, v], [], w2) ∧ thr w w1 ∧ rch w1 w2 ∧ endO bt n 0 0 [] bgD x w2 := by
  obtain ⟨w1, a1, a2, a3, a4, a5⟩ := l_rules (d := d) 6 6 (updI (updI (updI (updI (updI (updI w 34 0 0) 34 8 (-1)) 34 4 0) 34 16 0) 34 17 0) 34 18 0) (by omega) (by omega) (fun j h1 h2 => by omega)
  have e34 : ∀ j, w1.1 34 j = (updI (updI (updI (updI (updI (updI w 34 0 0) 34 8 (-1)) 34 4 0) 34 16 0) 34 17 0) 34 18 0).1 34 j := fun j => by rw [a3 34 (by decide)]
  have f1 : thr w w1 := by
    refine ⟨fun q h1 h2 => ?_, fun j h1 h2 h3 h4 h5 h6 => ?_, fun k hk => ?_, a5⟩
    · rw [a3 q h2]; funext z; rw [rd_n h1, rd_n h1, rd_n h1, rd_n h1, rd_n h1, rd_n h1]
    · rw [e34, rd_k h6, rd_k h5, rd_k h4, rd_k h2, rd_k h3, rd_k h1]
    · rw [a4 k hk, rd_n (by decide), rd_n (by decide), rd_n (by decide), rd_n (by decide), rd_n (by decide), rd_n (by decide)]
  have T1 : MT bt n w1 := by
    unfold MT
    rw [f1.1 35 (by decide) (by decide), f1.2.1 3 (by decide) (by decide) (by decide) (by decide) (by decide) (by decide)]
    exact T
  have W4 : w1.1 34 4 = nI 0 := by rw [e34, rd_k (by decide), rd_k (by decide), rd_k (by decide), rd_e]; rfl
  have W8 : w1.1 34 8 = -1 := by rw [e34, rd_k (by decide), rd_k (by decide), rd_k (by decide), rd_k (by decide), rd_e]
  obtain ⟨w2, b1, b2, b3⟩ := m_advances (d := d + 3) ho T1 (Nat.zero_le _) W4
  have M1 : MD bgD w1 := by
    refine ⟨?_, ?_, ?_, fun s hs => absurd hs (Nat.not_lt_zero _), fun t ht => absurd ht (Nat.not_lt_zero _), fun q hq => absurd hq (Nat.not_lt_zero _), fun j j1 j2 => ?_⟩
    · rw [e34, rd_k (by decide), rd_k (by decide), rd_e]; rfl
    · rw [e34, rd_k (by decide), rd_e]; rfl
    · rw [e34, rd_e]; rfl
    · rw [a2 (j + 2) (by omega) (by omega)]
      exact (if_pos rfl).symm
  have R2 : RW bt n 0 w2 := ⟨Nat.zero_le _, by rw [b2.2.1 8 (by decide) (by decide) (by decide) (by decide)]; exact W8, b3⟩
  obtain ⟨x, v, w3, c1, c2, c3⟩ := l_items (d := d) ho (n + 1) 0 0 [] bgD .null w2 (by omega) (T1.atf b2) R2 (M1.atg b2.atg) okD_new
  have t2 := p_X9_school_35T_L59 (ex := sem (d + 7)) (x1 := 0) (x2 := 12) (w := w1) (by decide) b1
  exact ⟨x, v, w1, w3, p_X9_school_0_L35.trans (a1.trans (t2.trans c1)), f1, b2.atg.rch.trans c2, c3⟩
end MITEMS

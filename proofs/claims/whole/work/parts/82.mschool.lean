/-! the reference: a spell's item; all items -/
section MSPL
variable {d : Nat} {bt : Nat → Nat} {n : Nat} {w : Wd}
/-- the world behind a spell's numbers -/
theorem spl_MD {e g l f : Nat} {D : Dr} {w2 : Wd} (M : MD D w) (hg : ∀ q, q ≠ 34 → q ≠ 36 → w2.1 q = w.1 q) (h34 : ∀ j, 17 ≤ j → w2.1 34 j = w.1 34 j) (h16 : w2.1 34 16 = nI (D.1 0 0 + 1)) (hlo : ∀ k, k < 20 + 4 * D.1 0 0 → w2.1 36 k = w.1 36 k)
    (z0 : w2.1 36 (20 + 4 * D.1 0 0) = nI e) (z1 : w2.1 36 (20 + 4 * D.1 0 0 + 1) = nI g) (z2 : w2.1 36 (20 + 4 * D.1 0 0 + 2) = nI l) (z3 : w2.1 36 (20 + 4 * D.1 0 0 + 3) = nI f) : MD (tellD 4 [f, l, g, e] D) w2 := by
  obtain ⟨m1, m2, m3, m4, m5, m6, m7⟩ := M
  show MD (upC (upC (upC (upC (upC D.1 1 (D.1 0 0) e) 2 (D.1 0 0) g) 3 (D.1 0 0) l) 4 (D.1 0 0) f) 0 0 (D.1 0 0 + 1), D.2) _
  have y0 : ∀ b, b ≠ 0 → upC (upC (upC (upC (upC D.1 1 (D.1 0 0) e) 2 (D.1 0 0) g) 3 (D.1 0 0) l) 4 (D.1 0 0) f) 0 0 (D.1 0 0 + 1) 0 b = D.1 0 b := fun b hb => by
    rw [upC_j hb, upC_i (by decide), upC_i (by decide), upC_i (by decide), upC_i (by decide)]
  have y00 : upC (upC (upC (upC (upC D.1 1 (D.1 0 0) e) 2 (D.1 0 0) g) 3 (D.1 0 0) l) 4 (D.1 0 0) f) 0 0 (D.1 0 0 + 1) 0 0 = D.1 0 0 + 1 := upC_e
  have yy : ∀ a b, 5 ≤ a → upC (upC (upC (upC (upC D.1 1 (D.1 0 0) e) 2 (D.1 0 0) g) 3 (D.1 0 0) l) 4 (D.1 0 0) f) 0 0 (D.1 0 0 + 1) a b = D.1 a b := fun a b ha => by
    rw [upC_i (by omega), upC_i (by omega), upC_i (by omega), upC_i (by omega), upC_i (by omega)]
  have ys : ∀ a s, a ≠ 0 → s ≠ D.1 0 0 → upC (upC (upC (upC (upC D.1 1 (D.1 0 0) e) 2 (D.1 0 0) g) 3 (D.1 0 0) l) 4 (D.1 0 0) f) 0 0 (D.1 0 0 + 1) a s = D.1 a s := fun a s ha es => by
    rw [upC_i ha, upC_j es, upC_j es, upC_j es, upC_j es]
  have y1 : upC (upC (upC (upC (upC D.1 1 (D.1 0 0) e) 2 (D.1 0 0) g) 3 (D.1 0 0) l) 4 (D.1 0 0) f) 0 0 (D.1 0 0 + 1) 1 (D.1 0 0) = e := by
    rw [upC_i (by decide), upC_i (by decide), upC_i (by decide), upC_i (by decide), upC_e]
  have y2 : upC (upC (upC (upC (upC D.1 1 (D.1 0 0) e) 2 (D.1 0 0) g) 3 (D.1 0 0) l) 4 (D.1 0 0) f) 0 0 (D.1 0 0 + 1) 2 (D.1 0 0) = g := by
    rw [upC_i (by decide), upC_i (by decide), upC_i (by decide), upC_e]
  have y3 : upC (upC (upC (upC (upC D.1 1 (D.1 0 0) e) 2 (D.1 0 0) g) 3 (D.1 0 0) l) 4 (D.1 0 0) f) 0 0 (D.1 0 0 + 1) 3 (D.1 0 0) = l := by
    rw [upC_i (by decide), upC_i (by decide), upC_e]
  have y4 : upC (upC (upC (upC (upC D.1 1 (D.1 0 0) e) 2 (D.1 0 0) g) 3 (D.1 0 0) l) 4 (D.1 0 0) f) 0 0 (D.1 0 0 + 1) 4 (D.1 0 0) = f := by
    rw [upC_i (by decide), upC_e]
  generalize upC (upC (upC (upC (upC D.1 1 (D.1 0 0) e) 2 (D.1 0 0) g) 3 (D.1 0 0) l) 4 (D.1 0 0) f) 0 0 (D.1 0 0 + 1) = C at *
  show w2.1 34 16 = nI (C 0 0) ∧ w2.1 34 17 = nI (C 0 1) ∧ w2.1 34 18 = nI (C 0 2) ∧ (∀ s, s < C 0 0 → w2.1 36 (20 + 4 * s) = nI (C 1 s) ∧ w2.1 36 (20 + 4 * s + 1) = nI (C 2 s) ∧ w2.1 36 (20 + 4 * s + 2) = nI (C 3 s) ∧ w2.1 36 (20 + 4 * s + 3) = nI (C 4 s)) ∧ (∀ t, t < C 0 1 → w2.1 37 (4 + t) = nI (cm (D.2 t))) ∧ (∀ q, q < C 0 2 → w2.1 38 (3 + q) = nI (C 5 q)) ∧ ∀ j, 7 ≤ j → j ≤ 9 → w2.1 39 (j + 2) = if C 6 j = 0 then -9 else nI (C 0 (j - 4))
  rw [y00, y0 1 (by decide), y0 2 (by decide), h34 17 (by decide), h34 18 (by decide), hg 37 (by decide) (by decide), hg 38 (by decide) (by decide), hg 39 (by decide) (by decide)]
  refine ⟨h16, m2, m3, fun s hs => ?_, m5, fun q hq => ?_, fun j j1 j2 => ?_⟩
  · by_cases es : s = D.1 0 0
    · rw [es, y1, y2, y3, y4]
      exact ⟨z0, z1, z2, z3⟩
    · rw [ys 1 s (by decide) es, ys 2 s (by decide) es, ys 3 s (by decide) es, ys 4 s (by decide) es, hlo _ (by omega), hlo _ (by omega), hlo _ (by omega), hlo _ (by omega)]
      exact m4 s (by omega)
  · rw [yy 5 q (by decide)]; exact m6 q hq
  · rw [yy 6 j (by decide), y0 (j - 4) (by omega)]; exact m7 j j1 j2
theorem m_spl {i it : Nat} {D : Dr} (ho : okt bt n) (T : MT bt n w) (R : RW bt n i w) (M : MD D w) (ok : okD D) (hop : D.1 0 0 < 5) :
    ∃ w2, sem (d + 7) 148 [.ref 34, .int 0] w = some (none, w2) ∧ rdO bt n i 4 it D w w2 := by
  have c9 : ∀ (j : Nat) (ns : List Nat), ns.length < 4 → ns.length ≠ 1 → canNx D.1 4 ns (tkV bt n j) = decide (tkV bt n j ≤ 9) := fun j ns h h1 => by
    unfold canNx
    rw [if_pos rfl, if_neg h1]
    exact decide_eq_decide.mpr ⟨fun g => g.2, fun g => ⟨h, g⟩⟩
  have c1 : ∀ (j : Nat) (ns : List Nat), ns.length = 1 → canNx D.1 4 ns (tkV bt n j) = decide (tkV bt n j ≤ 1) := fun j ns h => by
    unfold canNx
    rw [if_pos rfl, if_pos h]
    exact decide_eq_decide.mpr ⟨fun g => g.2, fun g => ⟨by omega, g⟩⟩
  have wf : ∀ ns : List Nat, ns.length < 4 → whl 4 ns = false := fun ns h => decide_eq_false (fun g => g.elim (fun g => absurd g (by decide)) (fun g => by rw [if_pos rfl] at g; omega))
  have hv := fun j => tkV_le bt n j
  have ix : 20 + (4 * (w.1 34 16)) = nI (20 + 4 * D.1 0 0) := by
    rw [M.1, Int32.mul_comm]
    have k1 : nI (D.1 0 0) * 4 = nI (D.1 0 0 * 4) := pk_mul _ 4
    have k2 : nI 20 + nI (D.1 0 0 * 4) = nI (20 + D.1 0 0 * 4) := nI_add 20 _
    rw [k1]
    refine k2.trans ?_
    rw [Nat.mul_comm]
  have ix1 : (20 + (4 * (w.1 34 16))) + 1 = nI (20 + 4 * D.1 0 0 + 1) := by rw [ix, nI_1]
  have ix2 : (20 + (4 * (w.1 34 16))) + 2 = nI (20 + 4 * D.1 0 0 + 2) := by rw [ix]; exact nI_add _ 2
  have ix3 : (20 + (4 * (w.1 34 16))) + 3 = nI (20 + 4 * D.1 0 0 + 3) := by rw [ix]; exact nI_add _ 3
  have v0 : vp_in (20 + (4 * (w.1 34 16))) 40 := by rw [ix]; exact vp_in_nI (by omega) (by decide)
  have v1 : vp_in ((20 + (4 * (w.1 34 16))) + 1) 40 := by rw [ix1]; exact vp_in_nI (by omega) (by decide)
  have v2 : vp_in ((20 + (4 * (w.1 34 16))) + 2) 40 := by rw [ix2]; exact vp_in_nI (by omega) (by decide)
  have v3 : vp_in ((20 + (4 * (w.1 34 16))) + 3) 40 := by rw [ix3]; exact vp_in_nI (by omega) (by decide)
  have n0 : (20 + (4 * (w.1 34 16))).toNatClampNeg = 20 + 4 * D.1 0 0 := by rw [ix, nI_clamp (by omega)]
  have n1 : ((20 + (4 * (w.1 34 16))) + 1).toNatClampNeg = 20 + 4 * D.1 0 0 + 1 := by rw [ix1, nI_clamp (by omega)]
  have n2 : ((20 + (4 * (w.1 34 16))) + 2).toNatClampNeg = 20 + 4 * D.1 0 0 + 2 := by rw [ix2, nI_clamp (by omega)]
  have n3 : ((20 + (4 * (w.1 34 16))) + 3).toNatClampNeg = 20 + 4 * D.1 0 0 + 3 := by rw [ix3, nI_clamp (by omega)]
  -- all four, whatever they say
  have all : ∀ (x1 x2 x3 x4 : Int32) (w1 w2 w3 w4 : Wd), sem (d + 6) 146 [.ref 34, .int 0, .int 9] w = some (some (.int x1), w1) → sem (d + 6) 146 [.ref 34, .int 0, .int 1] (updI w1 36 (20 + 4 * D.1 0 0) x1) = some (some (.int x2), w2) → sem (d + 6) 146 [.ref 34, .int 0, .int 9] (updI w2 36 (20 + 4 * D.1 0 0 + 1) x2) = some (some (.int x3), w3) → sem (d + 6) 146 [.ref 34, .int 0, .int 9] (updI w3 36 (20 + 4 * D.1 0 0 + 2) x3) = some (some (.int x4), w4) →
      sem (d + 7) 148 [.ref 34, .int 0] w = some (none, updI (updI w4 36 (20 + 4 * D.1 0 0 + 3) x4) 34 16 ((w4.1 34 16) + 1)) := by
    intro x1 x2 x3 x4 w1 w2 w3 w4 a1 a2 a3 a4
    have t := p_X9_readsItem_0F_R (ex := sem (d + 6)) (x1 := 0) (w := w) rfl a1 v0 (by rw [n0]; exact a2) v1 (by rw [n1]; exact a3) v2 (by rw [n2]; exact a4) v3
    rw [n3] at t
    exact e_X9_readsItem.trans t
  have up36 : ∀ (w : Wd) (k : Nat) (x : Int32), 20 ≤ k → rch w (updI w 36 k x) := fun w k x h => rch.up w x (by omega)
  obtain ⟨x1, w1, a1, a2, a3⟩ := m_number (d := d) (k := 4) (it := it) (ns := []) (D := D) ho T R (by decide) (in_le (d := d + 4) (hi := 9) (by have := hv i; omega) (by decide)) (c9 i [] (by decide) (by decide)) (fun _ => wf _ (by decide))
  have T1 := (T.atg a2).rch (up36 w1 (20 + 4 * D.1 0 0) x1 (by omega))
  rcases a3 with ⟨b1, R1, k1, E1⟩ | ⟨f, F1, E1⟩
  · have R1' := R1.up (a := 36) (k := 20 + 4 * D.1 0 0) (x := x1) (by decide)
    obtain ⟨x2, w2, c2, d2, e2⟩ := m_number (d := d) (k := 4) (it := it) (ns := [tkV bt n i]) (D := D) ho T1 R1' (by decide) (in_le (d := d + 4) (hi := 1) (by have := hv (tkE bt n i); omega) (by decide)) (c1 _ _ rfl) (fun _ => wf _ (by show 1 < 4; decide))
    have T2 := (T1.atg d2).rch (up36 w2 (20 + 4 * D.1 0 0 + 1) x2 (by omega))
    rcases e2 with ⟨b2, R2, k2, E2⟩ | ⟨f, F2, E2⟩
    · have R2' := R2.up (a := 36) (k := 20 + 4 * D.1 0 0 + 1) (x := x2) (by decide)
      obtain ⟨x3, w3, c3, d3, e3⟩ := m_number (d := d) (k := 4) (it := it) (ns := [tkV bt n (tkE bt n i), tkV bt n i]) (D := D) ho T2 R2' (by decide) (in_le (d := d + 4) (hi := 9) (by have := hv (tkE bt n (tkE bt n i)); omega) (by decide)) (c9 _ _ (by show 2 < 4; decide) (by show 2 ≠ 1; decide)) (fun _ => wf _ (by show 2 < 4; decide))
      have T3 := (T2.atg d3).rch (up36 w3 (20 + 4 * D.1 0 0 + 2) x3 (by omega))
      rcases e3 with ⟨b3, R3, k3, E3⟩ | ⟨f, F3, E3⟩
      · have R3' := R3.up (a := 36) (k := 20 + 4 * D.1 0 0 + 2) (x := x3) (by decide)
        obtain ⟨x4, w4, c4, d4, e4⟩ := m_number (d := d) (k := 4) (it := it) (ns := [tkV bt n (tkE bt n (tkE bt n i)), tkV bt n (tkE bt n i), tkV bt n i]) (D := D) ho T3 R3' (by decide) (in_le (d := d + 4) (hi := 9) (by have := hv (tkE bt n (tkE bt n (tkE bt n i))); omega) (by decide)) (c9 _ _ (by show 3 < 4; decide) (by show 3 ≠ 1; decide)) (fun _ => wf _ (by show 3 < 4; decide))
        have s16 : (w4.1 34 16) = nI (D.1 0 0) := by
          rw [d4.2.1 16 (by decide), rd_n (by decide), d3.2.1 16 (by decide), rd_n (by decide), d2.2.1 16 (by decide), rd_n (by decide), a2.2.1 16 (by decide)]
          exact M.1
        have s4 := all _ _ _ _ _ _ _ _ a1 c2 c3 c4
        rw [s16, nI_1] at s4
        have hr : rch w (updI (updI w4 36 (20 + 4 * D.1 0 0 + 3) x4) 34 16 (nI (D.1 0 0 + 1))) := a2.rch.trans ((up36 _ _ _ (by omega)).trans (d2.rch.trans ((up36 _ _ _ (by omega)).trans (d3.rch.trans ((up36 _ _ _ (by omega)).trans (d4.rch.trans ((up36 _ _ _ (by omega)).trans (rch.up _ _ (by omega)))))))))
        refine ⟨_, s4, hr, ?_⟩
        rcases e4 with ⟨b4, R4, k4, E4⟩ | ⟨f, F4, E4⟩
        · obtain ⟨q1, q2, q3, _⟩ := tk_adv (bt := bt) R.1
          obtain ⟨q4, q5, q6, _⟩ := tk_adv (bt := bt) R1.1
          obtain ⟨q7, q8, q9, _⟩ := tk_adv (bt := bt) R2.1
          obtain ⟨q10, q11, q12, _⟩ := tk_adv (bt := bt) R3.1
          have p4 : w4.1 36 = (updI w3 36 (20 + 4 * D.1 0 0 + 2) x3).1 36 := d4.1 36 (by decide)
          have p3 : w3.1 36 = (updI w2 36 (20 + 4 * D.1 0 0 + 1) x2).1 36 := d3.1 36 (by decide)
          have p2 : w2.1 36 = (updI w1 36 (20 + 4 * D.1 0 0) x1).1 36 := d2.1 36 (by decide)
          have p1 : w1.1 36 = w.1 36 := a2.1 36 (by decide)
          refine Or.inl ⟨_, _, by omega, (R4.up (by decide)).up34 (by decide), E1.trans (E2.trans (E3.trans E4)), rfl, fun _ => ?_, ⟨k4, k3, k2, k1, trivial⟩, spl_MD M (fun q h1 h2 => ?_) (fun j hj => ?_) rd_e (fun k hk => ?_) ?_ ?_ ?_ ?_⟩
          · unfold canNx
            rw [if_pos rfl]
            exact decide_eq_false (fun h => absurd h.1 (Nat.lt_irrefl 4))
          · funext j
            rw [rd_n h1, rd_n h2, d4.1 q h1, rd_n h2, d3.1 q h1, rd_n h2, d2.1 q h1, rd_n h2, a2.1 q h1]
          · rw [rd_k (by omega), rd_n (by decide), d4.2.1 j (by omega), rd_n (by decide), d3.2.1 j (by omega), rd_n (by decide), d2.2.1 j (by omega), rd_n (by decide), a2.2.1 j (by omega)]
          · rw [rd_n (by decide), rd_k (by omega), p4, rd_k (by omega), p3, rd_k (by omega), p2, rd_k (by omega), p1]
          · rw [rd_n (by decide), rd_k (by omega), p4, rd_k (by omega), p3, rd_k (by omega), p2, rd_e, b1]
          · rw [rd_n (by decide), rd_k (by omega), p4, rd_k (by omega), p3, rd_e, b2]
          · rw [rd_n (by decide), rd_k (by omega), p4, rd_e, b3]
          · rw [rd_n (by decide), rd_e, b4]
        · exact Or.inr ⟨f, (F4.up (Or.inl (by decide))).up (Or.inr (by decide)), E1.trans (E2.trans (E3.trans E4))⟩
      · have g3 := F3.up (a := 36) (k := 20 + 4 * D.1 0 0 + 2) (x := x3) (Or.inl (by decide))
        exact ⟨_, all _ _ _ _ _ _ _ _ a1 c2 c3 (m_numF (d := d + 3) g3), a2.rch.trans ((up36 _ _ _ (by omega)).trans (d2.rch.trans ((up36 _ _ _ (by omega)).trans (d3.rch.trans ((up36 _ _ _ (by omega)).trans ((up36 _ _ _ (by omega)).trans (rch.up _ _ (by omega)))))))), Or.inr ⟨f, (g3.up (Or.inl (by decide))).up (Or.inr (by decide)), E1.trans (E2.trans E3)⟩⟩
    · have g2 := F2.up (a := 36) (k := 20 + 4 * D.1 0 0 + 1) (x := x2) (Or.inl (by decide))
      have g3 := g2.up (a := 36) (k := 20 + 4 * D.1 0 0 + 2) (x := 0) (Or.inl (by decide))
      exact ⟨_, all _ _ _ _ _ _ _ _ a1 c2 (m_numF (d := d + 3) g2) (m_numF (d := d + 3) g3), a2.rch.trans ((up36 _ _ _ (by omega)).trans (d2.rch.trans ((up36 _ _ _ (by omega)).trans ((up36 _ _ _ (by omega)).trans ((up36 _ _ _ (by omega)).trans (rch.up _ _ (by omega))))))), Or.inr ⟨f, (g3.up (Or.inl (by decide))).up (Or.inr (by decide)), E1.trans E2⟩⟩
  · have g1 := F1.up (a := 36) (k := 20 + 4 * D.1 0 0) (x := x1) (Or.inl (by decide))
    have g2 := g1.up (a := 36) (k := 20 + 4 * D.1 0 0 + 1) (x := 0) (Or.inl (by decide))
    have g3 := g2.up (a := 36) (k := 20 + 4 * D.1 0 0 + 2) (x := 0) (Or.inl (by decide))
    exact ⟨_, all _ _ _ _ _ _ _ _ a1 (m_numF (d := d + 3) g1) (m_numF (d := d + 3) g2) (m_numF (d := d + 3) g3), a2.rch.trans ((up36 _ _ _ (by omega)).trans ((up36 _ _ _ (by omega)).trans ((up36 _ _ _ (by omega)).trans ((up36 _ _ _ (by omega)).trans (rch.up _ _ (by omega)))))), Or.inr ⟨f, (g3.up (Or.inl (by decide))).up (Or.inr (by decide)), E1⟩⟩
theorem m_readsItem {i k it : Nat} {D : Dr} (ho : okt bt n) (T : MT bt n w) (R : RW bt n i w) (M : MD D w) (ok : okD D) (hk : 4 ≤ k ∧ k ≤ 9) (hop : canOp D.1 k = true) :
    ∃ w2, sem (d + 7) 148 [.ref 34, .int (nI (k - 4))] w = some (none, w2) ∧ rdO bt n i k it D w w2 := by
  have hv := tkV_le bt n i
  rcases (by omega : k = 4 ∨ k = 5 ∨ k = 6 ∨ k = 7 ∨ k = 8 ∨ k = 9) with rfl | rfl | rfl | rfl | rfl | rfl
  · exact m_spl ho T R M ok (of_decide_eq_true hop)
  · obtain ⟨w2, a1, a2⟩ := l_mthing (d := d) (it := it) (D := D) ho ok (of_decide_eq_true hop) 5 0 i [] (.int 1) w (by omega) rfl (Nat.le_refl _) T R M trivial rfl
    exact ⟨w2, e_X9_readsItem.trans ((p_X9_readsItem_0TF_L93 (by decide) rfl).trans a1), a2⟩
  · exact m_pup ho T R M ok (of_decide_eq_true hop)
  · have hb : canNx D.1 7 [] (tkV bt n i) = decide (tkV bt n i ≤ 9) := by
      unfold canNx
      rw [if_neg (by decide), if_neg (by decide), if_neg (by decide), if_pos (Or.inl rfl)]
      exact decide_eq_decide.mpr ⟨fun g => g.2, fun g => ⟨by decide, g⟩⟩
    obtain ⟨x, w1, a1, a2⟩ := m_cost (d := d) (i := i) (k := 7) (it := it) (hi := 9) (D := D) (lo := 0) ho T R M (by decide) (by decide) (by rw [hb]; exact in_le (by omega) (by decide))
    exact ⟨_, e_X9_readsItem.trans (p_X9_readsItem_0TTTTT_R (x1 := 3) (by decide) (by decide) (by decide) (by decide) (by decide) a1 (by unfold vp_in; decide)), a2⟩
  · have hb : canNx D.1 8 [] (tkV bt n i) = decide (tkV bt n i ≤ 9) := by
      unfold canNx
      rw [if_neg (by decide), if_neg (by decide), if_neg (by decide), if_pos (Or.inr rfl)]
      exact decide_eq_decide.mpr ⟨fun g => g.2, fun g => ⟨by decide, g⟩⟩
    obtain ⟨x, w1, a1, a2⟩ := m_cost (d := d) (i := i) (k := 8) (it := it) (hi := 9) (D := D) (lo := 0) ho T R M (by decide) (by decide) (by rw [hb]; exact in_le (by omega) (by decide))
    exact ⟨_, e_X9_readsItem.trans (p_X9_readsItem_0TTTTT_R (x1 := 4) (by decide) (by decide) (by decide) (by decide) (by decide) a1 (by unfold vp_in; decide)), a2⟩
  · have hb : canNx D.1 9 [] (tkV bt n i) = decide (1 ≤ tkV bt n i ∧ tkV bt n i ≤ 5) := by
      unfold canNx
      rw [if_neg (by decide), if_neg (by decide), if_neg (by decide), if_neg (by decide), if_pos rfl]
      exact decide_eq_decide.mpr ⟨fun g => g.2, fun g => ⟨by decide, g⟩⟩
    obtain ⟨x, w1, a1, a2⟩ := m_cost (d := d) (i := i) (k := 9) (it := it) (hi := 5) (D := D) (lo := 1) ho T R M (by decide) (by decide) (by rw [hb]; exact m_inN (lo := 1) (by omega) (by decide) (by decide))
    exact ⟨_, e_X9_readsItem.trans (p_X9_readsItem_0TTTFF_R (x1 := 5) (by decide) (by decide) (by decide) (by decide) (by decide) a1 (by unfold vp_in; decide)), a2⟩
end MSPL

/-! the reference: an item; the whole text -/
section MREADS
variable {d : Nat} {bt : Nat → Nat} {n : Nat} {w : Wd}
theorem m_mayBegin {D : Dr} {k : Nat} (M : MD D w) (ok : okD D) (hk : 4 ≤ k ∧ k ≤ 9) (W7 : w.1 34 7 = nI (k - 4)) : sem (d + 1) 147 [.ref 34] w = some (some (.int (b2i (canOp D.1 k))), w) := by
  obtain ⟨m1, m2, m3, m4, m5, m6, m7⟩ := M
  obtain ⟨h5, h4, h3, h9⟩ := ok.1
  refine e_X9_mayBegin.trans ?_
  unfold canOp
  have neq : ∀ j, j < 10 → k - 4 ≠ j → ¬ (w.1 34 7) = nI j := fun j hj hne h => hne ((nI_eq (by omega) (by omega)).mp (W7.symm.trans h))
  rcases (by omega : k = 4 ∨ k = 5 ∨ k = 6 ∨ 7 ≤ k) with rfl | rfl | rfl | h7
  · have g3 : ¬ 3 ≤ (w.1 34 7) := by rw [W7]; exact nI_ge (b := 3) (by decide) (by decide)
    rw [if_pos rfl]
    by_cases q : D.1 0 0 < 5
    · rw [b2i_t (decide_eq_true q)]
      exact p_X9_mayBegin_0FFF_R g3 W7 (by rw [m1]; exact nI_ge (b := 5) q (by decide))
    · rw [b2i_f (decide_eq_false q)]
      exact p_X9_mayBegin_0FFT_R g3 W7 (by rw [m1]; exact nI_le (a := 5) (by omega) (by omega))
  · have g3 : ¬ 3 ≤ (w.1 34 7) := by rw [W7]; exact nI_ge (b := 3) (by decide) (by decide)
    rw [if_neg (by decide), if_pos rfl]
    by_cases q : D.1 0 1 < 4
    · rw [b2i_t (decide_eq_true q)]
      exact p_X9_mayBegin_0FTFF_R g3 (neq 0 (by decide) (by decide)) W7 (by rw [m2]; exact nI_ge (b := 4) q (by decide))
    · rw [b2i_f (decide_eq_false q)]
      exact p_X9_mayBegin_0FTFT_R g3 (neq 0 (by decide) (by decide)) W7 (by rw [m2]; exact nI_le (a := 4) (by omega) (by omega))
  · have g3 : ¬ 3 ≤ (w.1 34 7) := by rw [W7]; exact nI_ge (b := 3) (by decide) (by decide)
    rw [if_neg (by decide), if_neg (by decide), if_pos rfl]
    by_cases q : D.1 0 2 < 3
    · rw [b2i_t (decide_eq_true q)]
      exact p_X9_mayBegin_0FTTF_R g3 (neq 0 (by decide) (by decide)) (neq 1 (by decide) (by decide)) (by rw [m3]; exact nI_ge (b := 3) q (by decide))
    · rw [b2i_f (decide_eq_false q)]
      exact p_X9_mayBegin_0FTTT_R g3 (neq 0 (by decide) (by decide)) (neq 1 (by decide) (by decide)) (by rw [m3]; exact nI_le (a := 3) (by omega) (by omega))
  · have g3 : 3 ≤ (w.1 34 7) := by rw [W7]; exact nI_le (a := 3) (by omega) (by omega)
    rw [if_neg (by omega), if_neg (by omega), if_neg (by omega)]
    have e6 : 6 + (w.1 34 7) = nI (k + 2) := by
      rw [W7]
      have : nI 6 + nI (k - 4) = nI (6 + (k - 4)) := nI_add 6 (k - 4)
      refine this.trans ?_
      rw [show 6 + (k - 4) = k + 2 by omega]
    have hv : vp_in (6 + (w.1 34 7)) 12 := by rw [e6]; exact vp_in_nI (by omega) (by decide)
    have e7 := m7 k h7 hk.2
    by_cases q : D.1 6 k = 0
    · rw [b2i_t (decide_eq_true q)]
      rw [if_pos q] at e7
      exact p_X9_mayBegin_0TF_R g3 hv (by rw [e6, nI_clamp (by omega)]; exact e7)
    · rw [b2i_f (decide_eq_false q)]
      rw [if_neg q] at e7
      have hb : D.1 0 (k - 4) ≤ 9 := by
        obtain ⟨g1, g2, g3, g4, g5, g6, _⟩ := ok.1
        rcases (by omega : k = 7 ∨ k = 8 ∨ k = 9) with rfl | rfl | rfl
        · exact g4
        · exact g5
        · have := g6.2
          show D.1 0 5 ≤ 9
          omega
      exact p_X9_mayBegin_0TT_R g3 hv (by
        rw [e6, nI_clamp (by omega), e7]
        intro h
        have := nI_pos (n := D.1 0 (k - 4)) (by omega)
        rw [h] at this
        exact this (by decide))
/-- an item's numbers read -/
def rdO (bt : Nat → Nat) (n i k it : Nat) (D : Dr) (w w2 : Wd) : Prop :=
  rch w w2 ∧ ((∃ j ns, i ≤ j ∧ RW bt n j w2 ∧ PR bt n i (k, [], D, it) = PR bt n j (k, ns, D, it) ∧ whl k ns = true ∧ (tkK bt n j = 3 → canNx D.1 k ns (tkV bt n j) = false) ∧ okN D.1 k ns ∧ MD (tellD k ns D) w2) ∨ ∃ f, FW f w2 ∧ PR bt n i (k, [], D, it) = .inl f)
theorem in_le {v hi : Nat} {w : Wd} (hv : v < 2 ^ 31) (hh : hi < 2 ^ 31) : sem (d + 1) 135 [.int (nI v), .int 0, .int (nI hi)] w = some (some (.int (b2i (decide (v ≤ hi)))), w) := by
  have := m_inN (d := d) (a := v) (lo := 0) (hi := hi) (w := w) hv (by decide) hh
  rw [show decide (0 ≤ v ∧ v ≤ hi) = decide (v ≤ hi) from decide_eq_decide.mpr ⟨fun h => h.2, fun h => ⟨Nat.zero_le _, h⟩⟩] at this
  exact this
theorem in_lt {v N : Nat} {w : Wd} (hv : v < 2 ^ 31) (hN : N < 2 ^ 31) : sem (d + 1) 135 [.int (nI v), .int 0, .int (nI N - 1)] w = some (some (.int (b2i (decide (v < N)))), w) := by
  have := m_in0 (d := d) (x := nI v) (n := N) (w := w) hN
  rw [this]
  by_cases h : v < N
  · rw [if_pos ⟨nI_pos hv, nI_lt h hN⟩, b2i_t (decide_eq_true h)]
  · rw [if_neg (fun g => nI_nlt (by omega) hv g.2), b2i_f (decide_eq_false h)]
theorem m_cost {i k it hi : Nat} {D : Dr} {lo : Int32} (ho : okt bt n) (T : MT bt n w) (R : RW bt n i w) (M : MD D w) (h7 : 7 ≤ k) (h9 : k ≤ 9)
    (hin : sem (d + 5) 135 [.int (nI (tkV bt n i)), .int lo, .int (nI hi)] w = some (some (.int (b2i (canNx D.1 k [] (tkV bt n i)))), w)) :
    ∃ x w1, sem (d + 6) 146 [.ref 34, .int lo, .int (nI hi)] w = some (some (.int x), w1) ∧ rdO bt n i k it D w (updI w1 39 (k + 2) x) := by
  obtain ⟨t1, t2, t3, t4, t5⟩ := tk_adv (bt := bt) R.1
  obtain ⟨x, w1, a1, a2, a3⟩ := m_number (d := d) (k := k) (it := it) (ns := []) (D := D) ho T R (by omega) hin rfl (fun _ => decide_eq_false (fun h => by
    rcases h with h | h
    · omega
    · rw [if_neg (by omega)] at h
      exact absurd h (by decide)))
  refine ⟨x, w1, a1, a2.rch.trans (rch.up _ _ (by omega)), ?_⟩
  rcases a3 with ⟨b1, b2, b3, b4⟩ | ⟨f, b1, b2⟩
  · refine Or.inl ⟨tkE bt n i, [tkV bt n i], by omega, b2.up (by decide), b4, decide_eq_true (Or.inr (by rw [if_neg (by omega)]; rfl)), fun h3 => ?_, ⟨b3, trivial⟩, ?_⟩
    · unfold canNx
      rw [if_neg (by omega), if_neg (by omega), if_neg (by omega)]
      split
      · exact decide_eq_false (fun h => absurd h.1 (Nat.lt_irrefl 1))
      · rw [if_pos (by omega)]
        exact decide_eq_false (fun h => absurd h.1 (Nat.lt_irrefl 1))
    · obtain ⟨m1, m2, m3, m4, m5, m6, m7⟩ := M.atg a2
      unfold tellD
      rw [if_neg (by omega), if_neg (by omega), if_neg (by omega)]
      have e : ∀ a b, a ≠ 6 → ¬ (a = 0 ∧ b = k - 4) → upC (upC D.1 0 (k - 4) (tkV bt n i)) 6 k 1 a b = D.1 a b := fun a b h1 h2 => (upC_i h1).trans (if_neg h2)
      refine ⟨?_, ?_, ?_, fun s hs => ?_, fun t ht => ?_, fun q hq => ?_, fun j j1 j2 => ?_⟩
      · show _ = nI (upC (upC D.1 0 (k - 4) (tkV bt n i)) 6 k 1 0 0)
        rw [e 0 0 (by decide) (by omega), rd_n (by decide)]; exact m1
      · show _ = nI (upC (upC D.1 0 (k - 4) (tkV bt n i)) 6 k 1 0 1)
        rw [e 0 1 (by decide) (by omega), rd_n (by decide)]; exact m2
      · show _ = nI (upC (upC D.1 0 (k - 4) (tkV bt n i)) 6 k 1 0 2)
        rw [e 0 2 (by decide) (by omega), rd_n (by decide)]; exact m3
      · have hs : s < upC (upC D.1 0 (k - 4) (tkV bt n i)) 6 k 1 0 0 := hs
        rw [e 0 0 (by decide) (by omega)] at hs
        show _ = nI (upC (upC D.1 0 (k - 4) (tkV bt n i)) 6 k 1 1 s) ∧ _ = nI (upC (upC D.1 0 (k - 4) (tkV bt n i)) 6 k 1 2 s) ∧ _ = nI (upC (upC D.1 0 (k - 4) (tkV bt n i)) 6 k 1 3 s) ∧ _ = nI (upC (upC D.1 0 (k - 4) (tkV bt n i)) 6 k 1 4 s)
        rw [e 1 s (by decide) (by omega), e 2 s (by decide) (by omega), e 3 s (by decide) (by omega), e 4 s (by decide) (by omega), rd_n (by decide), rd_n (by decide), rd_n (by decide), rd_n (by decide)]
        exact m4 s hs
      · have ht : t < upC (upC D.1 0 (k - 4) (tkV bt n i)) 6 k 1 0 1 := ht
        rw [e 0 1 (by decide) (by omega)] at ht
        rw [rd_n (by decide)]; exact m5 t ht
      · have hq : q < upC (upC D.1 0 (k - 4) (tkV bt n i)) 6 k 1 0 2 := hq
        rw [e 0 2 (by decide) (by omega)] at hq
        show _ = nI (upC (upC D.1 0 (k - 4) (tkV bt n i)) 6 k 1 5 q)
        rw [e 5 q (by decide) (by omega), rd_n (by decide)]; exact m6 q hq
      · show _ = if upC (upC D.1 0 (k - 4) (tkV bt n i)) 6 k 1 6 j = 0 then -9 else nI (upC (upC D.1 0 (k - 4) (tkV bt n i)) 6 k 1 0 (j - 4))
        by_cases ej : j = k
        · rw [ej, upC_e, if_neg (by decide), upC_i (by decide), upC_e, rd_e, b1]
        · rw [upC_j ej, upC_i (by decide), e 0 (j - 4) (by decide) (by omega), rd_k (by omega)]
          exact m7 j j1 j2
  · exact Or.inr ⟨f, b1.up (Or.inl (by decide)), b2⟩
theorem m_pup {i it : Nat} {D : Dr} (ho : okt bt n) (T : MT bt n w) (R : RW bt n i w) (M : MD D w) (ok : okD D) (hop : D.1 0 2 < 3) :
    ∃ w2, sem (d + 7) 148 [.ref 34, .int 2] w = some (none, w2) ∧ rdO bt n i 6 it D w w2 := by
  obtain ⟨t1, t2, t3, t4, t5⟩ := tk_adv (bt := bt) R.1
  have h5 := ok.1.1
  have h32 := two32 ok.1
  have hv := tkV_le bt n i
  have e1 : ((1 : Int32) <<< ((w.1 34 16) &&& 31)) - 1 = nI (2 ^ D.1 0 0) - 1 := by rw [M.1, pow_i h5]
  have hin := in_lt (d := d + 4) (v := tkV bt n i) (N := 2 ^ D.1 0 0) (w := w) (by omega) (by omega)
  have hb : canNx D.1 6 [] (tkV bt n i) = decide (tkV bt n i < 2 ^ D.1 0 0) := by
    unfold canNx
    rw [if_neg (by decide), if_neg (by decide), if_pos rfl]
    exact decide_eq_decide.mpr ⟨fun h => h.2, fun h => ⟨by decide, h⟩⟩
  obtain ⟨x, w1, a1, a2, a3⟩ := m_number (d := d) (k := 6) (it := it) (ns := []) (D := D) ho T R (by decide) hin hb (fun _ => rfl)
  have e3 : 3 + (w.1 34 18) = nI (3 + D.1 0 2) := by
    rw [M.2.2.1]
    exact nI_add 3 (D.1 0 2)
  have e4 : (w1.1 34 18) = nI (D.1 0 2) := by rw [a2.2.1 18 (by decide)]; exact M.2.2.1
  rw [← e1] at a1
  have t := p_X9_readsItem_0TTF_R (ex := sem (d + 6)) (x1 := 2) (w := w) (by decide) (by decide) rfl a1 (by rw [e3]; exact vp_in_nI (by omega) (by decide))
  rw [e3, nI_clamp (by omega), e4, nI_1] at t
  refine ⟨_, e_X9_readsItem.trans t, a2.rch.trans ((rch.up _ _ (by omega)).trans (rch.up _ _ (by omega))), ?_⟩
  rcases a3 with ⟨b1, b2, b3, b4⟩ | ⟨f, b1, b2⟩
  · refine Or.inl ⟨tkE bt n i, [tkV bt n i], by omega, (b2.up (by decide)).up34 (by decide), b4, rfl, fun _ => ?_, ⟨b3, trivial⟩, ?_⟩
    · unfold canNx
      rw [if_neg (by decide), if_neg (by decide), if_pos rfl]
      exact decide_eq_false (fun h => absurd h.1 (Nat.lt_irrefl 1))
    · obtain ⟨m1, m2, m3, m4, m5, m6, m7⟩ := M.atg a2
      show MD (upC (upC D.1 5 (D.1 0 2) (tkV bt n i)) 0 2 (D.1 0 2 + 1), D.2) _
      have e : ∀ a b, ¬ (a = 0 ∧ b = 2) → a ≠ 5 → upC (upC D.1 5 (D.1 0 2) (tkV bt n i)) 0 2 (D.1 0 2 + 1) a b = D.1 a b := fun a b hb ha => (if_neg hb).trans (upC_i ha)
      refine ⟨?_, ?_, ?_, fun s hs => ?_, fun t ht => ?_, fun q hq => ?_, fun j j1 j2 => ?_⟩
      · show _ = nI (upC (upC D.1 5 (D.1 0 2) (tkV bt n i)) 0 2 (D.1 0 2 + 1) 0 0)
        rw [e 0 0 (by omega) (by decide), rd_k (by decide), rd_n (by decide)]; exact m1
      · show _ = nI (upC (upC D.1 5 (D.1 0 2) (tkV bt n i)) 0 2 (D.1 0 2 + 1) 0 1)
        rw [e 0 1 (by omega) (by decide), rd_k (by decide), rd_n (by decide)]; exact m2
      · show _ = nI (upC (upC D.1 5 (D.1 0 2) (tkV bt n i)) 0 2 (D.1 0 2 + 1) 0 2)
        rw [upC_e, rd_e]
      · have hs : s < upC (upC D.1 5 (D.1 0 2) (tkV bt n i)) 0 2 (D.1 0 2 + 1) 0 0 := hs
        rw [e 0 0 (by omega) (by decide)] at hs
        show _ = nI (upC (upC D.1 5 (D.1 0 2) (tkV bt n i)) 0 2 (D.1 0 2 + 1) 1 s) ∧ _ = nI (upC (upC D.1 5 (D.1 0 2) (tkV bt n i)) 0 2 (D.1 0 2 + 1) 2 s) ∧ _ = nI (upC (upC D.1 5 (D.1 0 2) (tkV bt n i)) 0 2 (D.1 0 2 + 1) 3 s) ∧ _ = nI (upC (upC D.1 5 (D.1 0 2) (tkV bt n i)) 0 2 (D.1 0 2 + 1) 4 s)
        rw [e 1 s (by omega) (by decide), e 2 s (by omega) (by decide), e 3 s (by omega) (by decide), e 4 s (by omega) (by decide), rd_n (by decide), rd_n (by decide), rd_n (by decide), rd_n (by decide), rd_n (by decide), rd_n (by decide), rd_n (by decide), rd_n (by decide)]
        exact m4 s hs
      · have ht : t < upC (upC D.1 5 (D.1 0 2) (tkV bt n i)) 0 2 (D.1 0 2 + 1) 0 1 := ht
        rw [e 0 1 (by omega) (by decide)] at ht
        rw [rd_n (by decide), rd_n (by decide)]; exact m5 t ht
      · have hq : q < upC (upC D.1 5 (D.1 0 2) (tkV bt n i)) 0 2 (D.1 0 2 + 1) 0 2 := hq
        rw [upC_e] at hq
        show _ = nI (upC (upC D.1 5 (D.1 0 2) (tkV bt n i)) 0 2 (D.1 0 2 + 1) 5 q)
        rw [upC_i (by decide), rd_n (by decide)]
        by_cases eq : q = D.1 0 2
        · rw [eq, upC_e, rd_e, b1]
        · rw [upC_j eq, rd_k (by omega)]; exact m6 q (by omega)
      · show _ = if upC (upC D.1 5 (D.1 0 2) (tkV bt n i)) 0 2 (D.1 0 2 + 1) 6 j = 0 then -9 else nI (upC (upC D.1 5 (D.1 0 2) (tkV bt n i)) 0 2 (D.1 0 2 + 1) 0 (j - 4))
        rw [e 6 j (by omega) (by decide), e 0 (j - 4) (by omega) (by decide), rd_n (by decide), rd_n (by decide)]
        exact m7 j j1 j2
  · exact Or.inr ⟨f, (b1.up (Or.inl (by decide))).up (Or.inr (by decide)), b2⟩
/-- the world behind a thing's row -/
theorem thg_MD {ns : List Nat} {D : Dr} (M : MD D w) : MD (tellD 5 ns D) (updI (updI w 37 (4 + D.1 0 1) (nI (cm ns))) 34 17 (nI (D.1 0 1 + 1))) := by
  obtain ⟨m1, m2, m3, m4, m5, m6, m7⟩ := M
  show MD (upC D.1 0 1 (D.1 0 1 + 1), upR D.2 (D.1 0 1) ns) _
  have e : ∀ a b, ¬ (a = 0 ∧ b = 1) → upC D.1 0 1 (D.1 0 1 + 1) a b = D.1 a b := fun a b hb => if_neg hb
  refine ⟨?_, ?_, ?_, fun s hs => ?_, fun t ht => ?_, fun q hq => ?_, fun j j1 j2 => ?_⟩
  · show _ = nI (upC D.1 0 1 (D.1 0 1 + 1) 0 0)
    rw [e 0 0 (by omega), rd_k (by decide), rd_n (by decide)]; exact m1
  · show _ = nI (upC D.1 0 1 (D.1 0 1 + 1) 0 1)
    rw [upC_e, rd_e]
  · show _ = nI (upC D.1 0 1 (D.1 0 1 + 1) 0 2)
    rw [e 0 2 (by omega), rd_k (by decide), rd_n (by decide)]; exact m3
  · have hs : s < upC D.1 0 1 (D.1 0 1 + 1) 0 0 := hs
    rw [e 0 0 (by omega)] at hs
    show _ = nI (upC D.1 0 1 (D.1 0 1 + 1) 1 s) ∧ _ = nI (upC D.1 0 1 (D.1 0 1 + 1) 2 s) ∧ _ = nI (upC D.1 0 1 (D.1 0 1 + 1) 3 s) ∧ _ = nI (upC D.1 0 1 (D.1 0 1 + 1) 4 s)
    rw [e 1 s (by omega), e 2 s (by omega), e 3 s (by omega), e 4 s (by omega), rd_n (by decide), rd_n (by decide), rd_n (by decide), rd_n (by decide), rd_n (by decide), rd_n (by decide), rd_n (by decide), rd_n (by decide)]
    exact m4 s hs
  · have ht : t < upC D.1 0 1 (D.1 0 1 + 1) 0 1 := ht
    rw [upC_e] at ht
    show _ = nI (cm (upR D.2 (D.1 0 1) ns t))
    rw [rd_n (by decide)]
    unfold upR
    by_cases et : t = D.1 0 1
    · rw [et, if_pos rfl, rd_e]
    · rw [if_neg et, rd_k (by omega)]; exact m5 t (by omega)
  · have hq : q < upC D.1 0 1 (D.1 0 1 + 1) 0 2 := hq
    rw [e 0 2 (by omega)] at hq
    show _ = nI (upC D.1 0 1 (D.1 0 1 + 1) 5 q)
    rw [e 5 q (by omega), rd_n (by decide), rd_n (by decide)]; exact m6 q hq
  · show _ = if upC D.1 0 1 (D.1 0 1 + 1) 6 j = 0 then -9 else nI (upC D.1 0 1 (D.1 0 1 + 1) 0 (j - 4))
    rw [e 6 j (by omega), e 0 (j - 4) (by omega), rd_n (by decide), rd_n (by decide)]
    exact m7 j j1 j2
theorem l_thingF {f t : Nat} {x : Int32} {v1 : Value} (F : FW f w) (hd : ∃ a, a < 4 ∧ w.1 34 17 = nI a) : ∃ w2, runs (T_X9_readsItem (sem (d + 6))) (93, [.ref 34, v1, .int x, .int (nI t)], [], w) = some (none, w2) ∧ rch w w2 ∧ FW f w2 := by
  obtain ⟨a, ha, e1⟩ := hd
  have e3 : 4 + (w.1 34 17) = nI (4 + a) := by rw [e1]; exact nI_add 4 a
  have hv : vp_in (4 + (w.1 34 17)) 8 := by rw [e3]; exact vp_in_nI (by omega) (by decide)
  have ec : (4 + (w.1 34 17)).toNatClampNeg = 4 + a := by rw [e3, nI_clamp (by omega)]
  have hr : rch w (updI (updI w 37 (4 + a) x) 34 17 ((w.1 34 17) + 1)) := (rch.up _ _ (by omega)).trans (rch.up _ _ (by omega))
  have hF : FW f (updI (updI w 37 (4 + a) x) 34 17 ((w.1 34 17) + 1)) := (F.up (Or.inl (by decide))).up (Or.inr (by decide))
  by_cases h5 : (5 : Int32) ≤ nI t
  · have t := p_X9_readsItem_93T_R (ex := sem (d + 6)) (v1 := v1) (x2 := x) (w := w) h5 hv
    rw [ec] at t
    exact ⟨_, t, hr, hF⟩
  · have t := p_X9_readsItem_93FT_R (ex := sem (d + 6)) (v1 := v1) (x2 := x) (w := w) h5 (m_wellF (d := d + 5) F) rfl hv
    rw [ec] at t
    exact ⟨_, t, hr, hF⟩
theorem l_mthing {i it : Nat} {D : Dr} (ho : okt bt n) (ok : okD D) (hop : D.1 0 1 < 4) : ∀ (m t j : Nat) (ns : List Nat) (v1 : Value) (w : Wd), m + t = 5 → ns.length = t → i ≤ j → MT bt n w → RW bt n j w → MD D w → okN D.1 5 ns → PR bt n i (5, [], D, it) = PR bt n j (5, ns, D, it) →
    ∃ w2, runs (T_X9_readsItem (sem (d + 6))) (93, [.ref 34, v1, .int (nI (cm ns)), .int (nI t)], [], w) = some (none, w2) ∧ rdO bt n i 5 it D w w2 := by
  have h5 := ok.1.1
  -- the end
  have fin : ∀ (j : Nat) (ns : List Nat) (w w2 : Wd), i ≤ j → RW bt n j w → MD D w → okN D.1 5 ns → PR bt n i (5, [], D, it) = PR bt n j (5, ns, D, it) → (tkK bt n j = 3 → canNx D.1 5 ns (tkV bt n j) = false) → w2 = updI (updI w 37 (4 + D.1 0 1) (nI (cm ns))) 34 17 (nI (D.1 0 1 + 1)) → rdO bt n i 5 it D w w2 := by
    intro j ns w w2 hij R M N E C hw
    subst hw
    exact ⟨(rch.up _ _ (by omega)).trans (rch.up _ _ (by omega)), Or.inl ⟨j, ns, hij, (R.up (by decide)).up34 (by decide), E, rfl, C, N, thg_MD M⟩⟩
  intro m
  induction m with
  | zero =>
    intro t j ns v1 w ht hl hij T R M N E
    have et : t = 5 := by omega
    have e3 : 4 + (w.1 34 17) = nI (4 + D.1 0 1) := by rw [M.2.1]; exact nI_add 4 (D.1 0 1)
    have tt := p_X9_readsItem_93T_R (ex := sem (d + 6)) (v1 := v1) (x2 := nI (cm ns)) (x3 := nI t) (w := w) (by rw [et]; decide) (by rw [e3]; exact vp_in_nI (by omega) (by decide))
    rw [e3, nI_clamp (by omega), M.2.1, nI_1] at tt
    refine ⟨_, tt, fin j ns w _ hij R M N E (fun _ => ?_) rfl⟩
    unfold canNx
    rw [if_neg (by decide), if_pos rfl]
    exact decide_eq_false (fun h => by have := h.1; omega)
  | succ m ih =>
    intro t j ns v1 w ht hl hij T R M N E
    have g5 : ¬ (5 : Int32) ≤ nI t := nI_ge (a := t) (b := 5) (by omega) (by decide)
    have e3 : 4 + (w.1 34 17) = nI (4 + D.1 0 1) := by rw [M.2.1]; exact nI_add 4 (D.1 0 1)
    have hv := tkV_le bt n j
    by_cases h3 : tkK bt n j = 3
    · have g2 : (w.1 34 5) = 2 := by rw [R.2.2.2.2.1]; exact mtk_eq.2.2.1.mpr h3
      have e1 : (w.1 34 16) - 1 = nI (D.1 0 0) - 1 := by rw [M.1]
      have hin := in_lt (d := d + 4) (v := tkV bt n j) (N := D.1 0 0) (w := w) (by omega) (by omega)
      have hb : canNx D.1 5 ns (tkV bt n j) = decide (tkV bt n j < D.1 0 0) := by
        unfold canNx
        rw [if_neg (by decide), if_pos rfl]
        exact decide_eq_decide.mpr ⟨fun h => h.2, fun h => ⟨by omega, h⟩⟩
      obtain ⟨x, w1, a1, a2, a3⟩ := m_number (d := d) (k := 5) (it := it) (ns := ns) (D := D) ho T R (by decide) hin hb (fun h => absurd h3 h)
      rw [← e1] at a1
      have tt := p_X9_readsItem_93FFF_L93 (v1 := v1) (x2 := nI (cm ns)) g5 (m_wellT (d := d + 5) R) (by decide) g2 a1
      rw [nI_1] at tt
      rcases a3 with ⟨b1, b2, b3, b4⟩ | ⟨f, b1, b2⟩
      · obtain ⟨t1, t2, t3, t4, t5⟩ := tk_adv (bt := bt) R.1
        have e6 : (6 * nI (cm ns)) + 1 + x = nI (cm (tkV bt n j :: ns)) := by
          have k1 : nI (cm ns) * 6 = nI (cm ns * 6) := pk_mul (cm ns) 6
          rw [b1, Int32.mul_comm, k1, nI_1, nI_add, cm_cons, show cm ns * 6 + 1 + tkV bt n j = 6 * cm ns + tkV bt n j + 1 by omega]
        rw [e6] at tt
        obtain ⟨w2, c1, c2, c3⟩ := ih (t + 1) (tkE bt n j) (tkV bt n j :: ns) .null w1 (by omega) (by rw [List.length_cons, hl]) (by omega) (T.atg a2) b2 (M.atg a2) ⟨b3, N⟩ (E.trans b4)
        exact ⟨w2, tt.trans c1, a2.rch.trans c2, c3⟩
      · obtain ⟨w2, c1, c2, c3⟩ := l_thingF (d := d) (t := t + 1) (x := (6 * nI (cm ns)) + 1 + x) (v1 := .null) b1 ⟨D.1 0 1, hop, by rw [a2.2.1 17 (by decide)]; exact M.2.1⟩
        exact ⟨w2, tt.trans c1, a2.rch.trans c2, Or.inr ⟨f, c3, E.trans b2⟩⟩
    · have g2 : ¬ (w.1 34 5) = 2 := by rw [R.2.2.2.2.1]; exact fun h => h3 (mtk_eq.2.2.1.mp h)
      have tt := p_X9_readsItem_93FFT_R (ex := sem (d + 6)) (v1 := v1) (x2 := nI (cm ns)) (x3 := nI t) (w := w) g5 (m_wellT (d := d + 5) R) (by decide) g2 (by rw [e3]; exact vp_in_nI (by omega) (by decide))
      rw [e3, nI_clamp (by omega), M.2.1, nI_1] at tt
      exact ⟨_, tt, fin j ns w _ hij R M N E (fun h => absurd h h3) rfl⟩
end MREADS

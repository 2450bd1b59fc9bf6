/-! the heap of the search -/
def LB (lab : Nat → Nat) (w : Wd) : Prop := ∀ k, k < 3906 → lab k < 2 ^ 31 ∧ w.1 12 k = nI (lab k)
def PH (h : Nat → Nat) (N s : Nat) (w : Wd) : Prop := ∀ i, i < N → i ≠ s → w.1 13 i = nI (h i) ∧ w.1 14 (h i) = nI i
def PF (h : Nat → Nat) (N : Nat) (w : Wd) : Prop := ∀ i, i < N → w.1 13 i = nI (h i) ∧ w.1 14 (h i) = nI i
def sitW (w : Wd) (row s : Nat) : Wd := updI (updI w 13 s (nI row)) 14 row (nI s)
section XHEAP
variable {d : Nat} {lab h : Nat → Nat} {N : Nat}
theorem s_sit {row s : Nat} {w : Wd} (hr : row < 3906) (hs : s < 3906) : sem (d + 2) 90 [.ref 11, .int (nI row), .int (nI s)] w = some (none, sitW w row s) :=
  e_X6_sit.trans (p_X6_sit_0_R (s_put (a := 13) (k := s) rfl (by show s < 3906; exact hs)) (s_put (a := 14) (k := row) rfl (by show row < 3906; exact hr)))
theorem sitW_frm {w : Wd} {row s : Nat} : frm 13 15 w (sitW w row s) := (frm.upI w (by decide) (by decide)).trans (frm.upI _ (by decide) (by decide))
theorem LB.frm {w w2 : Wd} (L : LB lab w) (f : frm 13 15 w w2) : LB lab w2 := fun k hk => ⟨(L k hk).1, by rw [(f 12 (Or.inl (by decide))).1]; exact (L k hk).2⟩
theorem sit_full {w : Wd} {s : Nat} (hk : okp h N) (P : PH h N s w) (hs : s < N) : PF h N (sitW w (h s) s) := by
  intro i hi
  unfold sitW
  by_cases e : i = s
  · subst e
    exact ⟨by rw [rd_n (by decide), rd_e], by rw [rd_e]⟩
  · obtain ⟨a, b⟩ := P i hi e
    exact ⟨by rw [rd_n (by decide), rd_k e]; exact a, by rw [rd_k (fun he => e (hk.2 i s hi hs he)), rd_n (by decide)]; exact b⟩
theorem sit_step {w : Wd} {s p : Nat} (hk : okp h N) (P : PH h N s w) (hs : s < N) (hp : p < N) (hps : p ≠ s) : PH (swp h s p) N p (sitW w (h p) s) := by
  intro i hi hip
  unfold sitW
  by_cases e : i = s
  · subst e
    rw [swp_a]
    exact ⟨by rw [rd_n (by decide), rd_e], by rw [rd_e]⟩
  · obtain ⟨a, b⟩ := P i hi e
    rw [swp_o h e hip]
    exact ⟨by rw [rd_n (by decide), rd_k e]; exact a, by rw [rd_k (fun he => hip (hk.2 i p hi hp he)), rd_n (by decide)]; exact b⟩
theorem i_half {s : Nat} (hs : 0 < s) (hl : s < 2 ^ 31) : (nI s - 1) / 2 = nI ((s - 1) / 2) := by
  obtain ⟨k, rfl⟩ : ∃ k, s = k + 1 := ⟨s - 1, by omega⟩
  have e : nI (k + 1) - 1 = nI k := nI_pred k
  rw [e]
  exact pk_div (a := k) (d := 2) (by omega) (by decide) (by decide)
theorem l_rise (hN : N ≤ 3906) : ∀ (m s k : Nat) (h : Nat → Nat) (v1 v5 : Value) (w : Wd), s ≤ m → (s + 1) * 2 ^ k ≤ 4096 → LB lab w → okp h N → rsI lab h N s → PH h N s w →
    ∃ h2 w2, runs (T_X6_rise (sem (d + 2))) (5, [.ref 11, v1, .int (nI (h s)), .int (nI s), .int (nI k), v5], [], w) = some (none, w2) ∧ frm 13 15 w w2 ∧ okp h2 N ∧ hea lab h2 N ∧ sam h h2 N ∧ PF h2 N w2 := by
  intro m
  induction m with
  | zero =>
    intro s k h v1 v5 w hm hk2 L K R P
    have hs : s = 0 := by omega
    subst hs
    have hk32 : k < 32 := by
      rcases Nat.lt_or_ge k 32 with h1 | h1
      · exact h1
      · have := Nat.pow_le_pow_right (n := 2) (by decide) h1
        have e : 2 ^ 32 = 4294967296 := by decide
        omega
    have hN0 := R.1
    have hr := K.1 0 hN0
    have h1 : ¬ (32 : Int32) ≤ nI k := nI_ge (a := k) (b := 32) (by omega) (by decide)
    exact ⟨h, _, p_X6_rise_5FT_R h1 (by decide) (s_sit (d := d) (s := 0) hr (by omega)), sitW_frm, K, R.done (fun h => absurd h (by decide)), sam.refl _ _, sit_full K P hN0⟩
  | succ m ih =>
    intro s k h v1 v5 w hm hk2 L K R P
    have hk32 : k < 32 := by
      rcases Nat.lt_or_ge k 32 with h1 | h1
      · exact h1
      · have h2 := Nat.pow_le_pow_right (n := 2) (by decide) h1
        have e : 2 ^ 32 = 4294967296 := by decide
        have h3 : 1 * 2 ^ k ≤ (s + 1) * 2 ^ k := Nat.mul_le_mul_right _ (by omega)
        omega
    have hsN := R.1
    have hr := K.1 s hsN
    have h1 : ¬ (32 : Int32) ≤ nI k := nI_ge (a := k) (b := 32) (by omega) (by decide)
    by_cases hs : s = 0
    · subst hs
      exact ⟨h, _, p_X6_rise_5FT_R h1 (by decide) (s_sit (d := d) (s := 0) hr (by omega)), sitW_frm, K, R.done (fun h => absurd h (by decide)), sam.refl _ _, sit_full K P hsN⟩
    · have hp : (s - 1) / 2 < N := by omega
      have hps : (s - 1) / 2 ≠ s := by omega
      have hrp := K.1 _ hp
      have e0 := i_half (s := s) (by omega) (by omega)
      have e1 := s_at (d := d + 1) (a := 13) (k := (s - 1) / 2) (w := w) rfl (by show _ < 3906; omega)
      rw [(P _ hp hps).1, ← e0] at e1
      have e2 := s_at (d := d + 1) (a := 12) (k := h ((s - 1) / 2)) (w := w) rfl (by show _ < 3906; exact hrp)
      rw [(L _ hrp).2] at e2
      have e3 := s_at (d := d + 1) (a := 12) (k := h s) (w := w) rfl (by show _ < 3906; exact hr)
      rw [(L _ hr).2] at e3
      have hn0 : ¬ nI s ≤ 0 := nI_nle (by omega) (by omega)
      by_cases hl : lab (h s) < lab (h ((s - 1) / 2))
      · have hk3 : ((s - 1) / 2 + 1) * 2 ^ (k + 1) ≤ 4096 := by
          have q1 : ((s - 1) / 2 + 1) * 2 ≤ s + 1 := by omega
          have q2 : ((s - 1) / 2 + 1) * 2 * 2 ^ k ≤ (s + 1) * 2 ^ k := Nat.mul_le_mul_right _ q1
          have q3 : ((s - 1) / 2 + 1) * 2 ^ (k + 1) = ((s - 1) / 2 + 1) * 2 * 2 ^ k := by rw [Nat.pow_succ, Nat.mul_comm (2 ^ k) 2, Nat.mul_assoc]
          omega
        obtain ⟨h2, w2, g1, g2, g3, g4, g5, g6⟩ := ih ((s - 1) / 2) (k + 1) (swp h s ((s - 1) / 2)) .null (.int (nI (h ((s - 1) / 2)))) (sitW w (h ((s - 1) / 2)) s) (by omega) hk3 (L.frm sitW_frm) (K.sw hsN hp) (R.step (by omega) hl) (sit_step K P hsN hp hps)
        rw [swp_b] at g1
        refine ⟨h2, w2, (p_X6_rise_5FFT_L5 h1 hn0 e1 e2 e3 (nI_lt hl (L _ hrp).1) (s_sit (d := d) hrp (by omega))).trans ?_, sitW_frm.trans g2, g3, g4, (sam.sw h hsN hp).trans g5, g6⟩
        rw [nI_1, e0]
        exact g1
      · exact ⟨h, _, p_X6_rise_5FFF_R h1 hn0 e1 e2 e3 (nI_nlt (by omega) (L _ hr).1) (s_sit (d := d) hr (by omega)), sitW_frm, K, R.done (fun _ => by omega), sam.refl _ _, sit_full K P hsN⟩
theorem s_rise {s : Nat} {w : Wd} (hN : N ≤ 3906) (L : LB lab w) (K : okp h N) (R : rsI lab h N s) (P : PH h N s w) :
    ∃ h2 w2, sem (d + 3) 87 [.ref 11, .int (nI s), .int (nI (h s))] w = some (none, w2) ∧ frm 13 15 w w2 ∧ okp h2 N ∧ hea lab h2 N ∧ sam h h2 N ∧ PF h2 N w2 := by
  obtain ⟨h2, w2, g1, g2⟩ := l_rise (d := d) hN s s 0 h (.int (nI s)) .null w (Nat.le_refl _) (by have := R.1; omega) L K R P
  exact ⟨h2, w2, e_X6_rise.trans (p_X6_rise_0_L5.trans g1), g2⟩
theorem s_labelAt {i : Nat} {w : Wd} (L : LB lab w) (K : okp h N) (hN : N ≤ 3906) (hi : i < N) (P : w.1 13 i = nI (h i)) : sem (d + 2) 89 [.ref 11, .int (nI i)] w = some (some (.int (nI (lab (h i)))), w) := by
  have e1 := s_at (d := d) (a := 13) (k := i) (w := w) rfl (by show i < 3906; omega)
  rw [P] at e1
  have hr := K.1 i hi
  have e2 := s_at (d := d) (a := 12) (k := h i) (w := w) rfl (by show _ < 3906; exact hr)
  rw [(L _ hr).2] at e2
  exact e_X6_labelAt.trans (p_X6_labelAt_0_R e1 e2)
theorem l_sink (hN : N ≤ 3906) : ∀ (m s k : Nat) (h : Nat → Nat) (v4 : Value) (w : Wd), N ≤ s + m → 2 ^ k ≤ s + 1 → LB lab w → w.1 11 3 = nI N → okp h N → skI lab h N s → PH h N s w →
    ∃ h2 w2, runs (T_X6_sink (sem (d + 2))) (4, [.ref 11, .int (nI (h s)), .int (nI s), .int (nI k), v4], [], w) = some (none, w2) ∧ frm 13 15 w w2 ∧ okp h2 N ∧ hea lab h2 N ∧ sam h h2 N ∧ PF h2 N w2 := by
  intro m
  induction m with
  | zero =>
    intro s k h v4 w hm _ L W K R P
    have := R.1
    omega
  | succ m ih =>
    intro s k h v4 w hm hk2 L W K R P
    have hsN := R.1
    have hr := K.1 s hsN
    have hk32 : k < 32 := by
      rcases Nat.lt_or_ge k 32 with h1 | h1
      · exact h1
      · have h2 := Nat.pow_le_pow_right (n := 2) (by decide) h1
        have e : 2 ^ 32 = 4294967296 := by decide
        omega
    have h1 : ¬ (32 : Int32) ≤ nI k := nI_ge (a := k) (b := 32) (by omega) (by decide)
    have e0 : 2 * nI s + 1 = nI (2 * s + 1) := by
      have k1 : nI s * 2 = nI (s * 2) := pk_mul s 2
      rw [Int32.mul_comm, k1, nI_1, Nat.mul_comm]
    have e00 : 2 * nI s + 1 + 1 = nI (2 * s + 2) := by rw [e0, nI_1]
    have e3 := s_at (d := d + 1) (a := 12) (k := h s) (w := w) rfl (by show _ < 3906; exact hr)
    rw [(L _ hr).2] at e3
    have sit := s_sit (d := d) (w := w) (s := s) hr (by omega)
    have fin : (∀ i, 0 < i → i < N → (i - 1) / 2 = s → lab (h s) ≤ lab (h i)) → frm 13 15 w (sitW w (h s) s) ∧ okp h N ∧ hea lab h N ∧ sam h h N ∧ PF h N (sitW w (h s) s) := fun hm => ⟨sitW_frm, K, R.done hm, sam.refl _ _, sit_full K P hsN⟩
    -- on to a child
    have nx : ∀ l : Nat, l < N → (l - 1) / 2 = s → 0 < l → lab (h l) < lab (h s) → (∀ i, 0 < i → i < N → (i - 1) / 2 = s → lab (h l) ≤ lab (h i)) →
        ∃ h2 w2, runs (T_X6_sink (sem (d + 2))) (4, [.ref 11, .int (nI (h s)), .int (nI l), .int (nI (k + 1)), .int (nI l)], [], sitW w (h l) s) = some (none, w2) ∧ frm 13 15 w w2 ∧ okp h2 N ∧ hea lab h2 N ∧ sam h h2 N ∧ PF h2 N w2 := by
      intro l l1 l2 l3 l4 l5
      have l6 : l ≠ s := by omega
      obtain ⟨h2, w2, g1, g2, g3, g4, g5, g6⟩ := ih l (k + 1) (swp h s l) (.int (nI l)) (sitW w (h l) s) (by omega) (by rw [Nat.pow_succ]; omega) (L.frm sitW_frm) (by rw [(sitW_frm (w := w) 11 (Or.inl (by decide))).1]; exact W) (K.sw hsN l1) (R.step l3 l1 l2 (by omega) l5) (sit_step K P hsN l1 l6)
      rw [swp_b] at g1
      exact ⟨h2, w2, g1, sitW_frm.trans g2, g3, g4, (sam.sw h hsN l1).trans g5, g6⟩
    by_cases c1 : 2 * s + 1 < N
    · have k1 : ¬ (w.1 11 3) ≤ 2 * nI s + 1 := by rw [e0, W]; exact nI_ge c1 (by omega)
      have P1 := (P (2 * s + 1) c1 (by omega)).1
      have a1 := s_labelAt (d := d) L K hN c1 P1
      have hr1 := K.1 _ c1
      have b1 := s_at (d := d + 1) (a := 13) (k := 2 * s + 1) (w := w) rfl (by show _ < 3906; omega)
      rw [P1, ← e0] at b1
      rw [← e0] at a1
      by_cases c2 : 2 * s + 2 < N
      · have k2 : ¬ (w.1 11 3) ≤ 2 * nI s + 1 + 1 := by rw [e00, W]; exact nI_ge c2 (by omega)
        have P2 := (P (2 * s + 2) c2 (by omega)).1
        have a2 := s_labelAt (d := d) L K hN c2 P2
        have hr2 := K.1 _ c2
        have b2 := s_at (d := d + 1) (a := 13) (k := 2 * s + 2) (w := w) rfl (by show _ < 3906; omega)
        rw [P2, ← e00] at b2
        rw [← e00] at a2
        by_cases c3 : lab (h (2 * s + 2)) < lab (h (2 * s + 1))
        · by_cases c4 : lab (h (2 * s + 2)) < lab (h s)
          · obtain ⟨h2, w2, g1, g2⟩ := nx (2 * s + 2) c2 (by omega) (by omega) c4 (fun i i1 i2 i3 => by
              rcases (by omega : i = 2 * s + 1 ∨ i = 2 * s + 2) with rfl | rfl <;> omega)
            refine ⟨h2, w2, (p_X6_sink_4FFFFT_L4 h1 k1 k2 a2 a1 (nI_ge c3 (L _ hr1).1) a2 e3 (nI_lt c4 (L _ hr).1) b2 (s_sit (d := d) (s := s) hr2 (by omega))).trans ?_, g2⟩
            rw [nI_1, e00]
            exact g1
          · exact ⟨h, _, p_X6_sink_4FFFFF_R h1 k1 k2 a2 a1 (nI_ge c3 (L _ hr1).1) a2 e3 (nI_nlt (by omega) (L _ hr2).1) sit, fin (fun i i1 i2 i3 => by
              rcases (by omega : i = 2 * s + 1 ∨ i = 2 * s + 2) with rfl | rfl <;> omega)⟩
        · by_cases c4 : lab (h (2 * s + 1)) < lab (h s)
          · obtain ⟨h2, w2, g1, g2⟩ := nx (2 * s + 1) c1 (by omega) (by omega) c4 (fun i i1 i2 i3 => by
              rcases (by omega : i = 2 * s + 1 ∨ i = 2 * s + 2) with rfl | rfl <;> omega)
            refine ⟨h2, w2, (p_X6_sink_4FFFTT_L4 h1 k1 k2 a2 a1 (nI_le (by omega) (L _ hr2).1) a1 e3 (nI_lt c4 (L _ hr).1) b1 (s_sit (d := d) (s := s) hr1 (by omega))).trans ?_, g2⟩
            rw [nI_1, e0]
            exact g1
          · exact ⟨h, _, p_X6_sink_4FFFTF_R h1 k1 k2 a2 a1 (nI_le (by omega) (L _ hr2).1) a1 e3 (nI_nlt (by omega) (L _ hr1).1) sit, fin (fun i i1 i2 i3 => by
              rcases (by omega : i = 2 * s + 1 ∨ i = 2 * s + 2) with rfl | rfl <;> omega)⟩
      · have k2 : (w.1 11 3) ≤ 2 * nI s + 1 + 1 := by rw [e00, W]; exact nI_le (by omega) (by omega)
        by_cases c4 : lab (h (2 * s + 1)) < lab (h s)
        · obtain ⟨h2, w2, g1, g2⟩ := nx (2 * s + 1) c1 (by omega) (by omega) c4 (fun i i1 i2 i3 => by
            have : i = 2 * s + 1 := by omega
            subst this
            omega)
          refine ⟨h2, w2, (p_X6_sink_4FFTT_L4 h1 k1 k2 a1 e3 (nI_lt c4 (L _ hr).1) b1 (s_sit (d := d) (s := s) hr1 (by omega))).trans ?_, g2⟩
          rw [nI_1, e0]
          exact g1
        · exact ⟨h, _, p_X6_sink_4FFTF_R h1 k1 k2 a1 e3 (nI_nlt (by omega) (L _ hr1).1) sit, fin (fun i i1 i2 i3 => by
            have : i = 2 * s + 1 := by omega
            subst this
            omega)⟩
    · have k1 : (w.1 11 3) ≤ 2 * nI s + 1 := by rw [e0, W]; exact nI_le (by omega) (by omega)
      exact ⟨h, _, p_X6_sink_4FT_R h1 k1 sit, fin (fun i i1 i2 i3 => by omega)⟩
theorem s_sink {w : Wd} (hN : N ≤ 3906) (L : LB lab w) (W : w.1 11 3 = nI N) (K : okp h N) (R : skI lab h N 0) (P : PH h N 0 w) :
    ∃ h2 w2, sem (d + 3) 88 [.ref 11, .int (nI (h 0))] w = some (none, w2) ∧ frm 13 15 w w2 ∧ okp h2 N ∧ hea lab h2 N ∧ sam h h2 N ∧ PF h2 N w2 := by
  obtain ⟨h2, w2, g1, g2⟩ := l_sink (d := d) hN N 0 0 h .null w (by omega) (by decide) L W K R P
  exact ⟨h2, w2, e_X6_sink.trans (p_X6_sink_0_L4.trans g1), g2⟩
end XHEAP

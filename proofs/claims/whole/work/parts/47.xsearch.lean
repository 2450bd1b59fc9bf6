/-! the search -/
theorem pigeon : ∀ (M n : Nat) (h : Nat → Nat), (∀ i, i < n → h i < M) → (∀ i j, i < n → j < n → h i = h j → i = j) → n ≤ M := by
  intro M
  induction M with
  | zero =>
    intro n h h1 _
    rcases Nat.eq_zero_or_pos n with h0 | h0
    · omega
    · exact absurd (h1 0 h0) (Nat.not_lt_zero _)
  | succ M ih =>
    intro n h h1 h2
    by_cases hx : ∃ i, i < n ∧ h i = M
    · obtain ⟨a, ha, he⟩ := hx
      have := ih (n - 1) (fun i => if i < a then h i else h (i + 1)) (fun i hi => by
        try dsimp only
        by_cases hia : i < a
        · rw [if_pos hia]
          have k1 := h1 i (by omega)
          have k2 : h i ≠ M := fun hh => by
            have := h2 i a (by omega) ha (hh.trans he.symm)
            omega
          omega
        · rw [if_neg hia]
          have k1 := h1 (i + 1) (by omega)
          have k2 : h (i + 1) ≠ M := fun hh => by
            have := h2 (i + 1) a (by omega) ha (hh.trans he.symm)
            omega
          omega) (fun i j hi hj hij => by
        try dsimp only at hij
        by_cases hia : i < a
        · rw [if_pos hia] at hij
          by_cases hja : j < a
          · rw [if_pos hja] at hij
            exact h2 i j (by omega) (by omega) hij
          · rw [if_neg hja] at hij
            have := h2 i (j + 1) (by omega) (by omega) hij
            omega
        · rw [if_neg hia] at hij
          by_cases hja : j < a
          · rw [if_pos hja] at hij
            have := h2 (i + 1) j (by omega) (by omega) hij
            omega
          · rw [if_neg hja] at hij
            have := h2 (i + 1) (j + 1) (by omega) (by omega) hij
            omega)
      omega
    · have := ih n h (fun i hi => by
        have k1 := h1 i hi
        have k2 : h i ≠ M := fun hh => hx ⟨i, hi, hh⟩
        omega) h2
      omega
/-- what the search holds: labels of rows, the heap of the open ones -/
def Sr (lab : List Nat → Nat) (D : List Nat → Bool) (h : Nat → Nat) (n : Nat) (w : Wd) : Prop :=
  LB (fun k => lab (dx 5 k)) w ∧ (∀ r, okr 5 r → lab r ≤ far) ∧ w.1 11 3 = nI n ∧ okp h n ∧ hea (fun k => lab (dx 5 k)) h n ∧ PF h n w ∧
  ∀ r, okr 5 r → ((∃ i, i < n ∧ h i = cx r) ↔ lab r < far ∧ D r = false)
def upLb (lab : List Nat → Nat) (q : List Nat) (l : Nat) : List Nat → Nat := fun r => if r = q then min (lab q) l else lab r
theorem upLb_hi {lab : List Nat → Nat} {q : List Nat} {l : Nat} (h : ¬ l < lab q) : upLb lab q l = lab := by
  funext r
  unfold upLb
  by_cases e : r = q
  · rw [if_pos e, e, Nat.min_eq_left (by omega)]
  · rw [if_neg e]
theorem far_lt : far < 2 ^ 31 := by decide
section XSEA
variable {d : Nat} {lab : List Nat → Nat} {D : List Nat → Bool} {h : Nat → Nat} {n : Nat} {w : Wd}
theorem Sr.n_le (S : Sr lab D h n w) : n ≤ 3906 := pigeon 3906 n h S.2.2.2.1.1 S.2.2.2.1.2
/-- labels where one falls -/
theorem LB.put {q : List Nat} {l : Nat} {w : Wd} (L : LB (fun k => lab (dx 5 k)) w) (hq : okr 5 q) (hl : l < lab q) (hlf : l < far) : LB (fun k => upLb lab q l (dx 5 k)) (updI w 12 (cx q) (nI l)) := by
  intro k hk
  have ff := far_lt
  unfold upLb
  try dsimp only
  by_cases e : dx 5 k = q
  · have e2 : k = cx q := by rw [← e, cx_dx5 hk]
    rw [if_pos e, Nat.min_eq_right (by omega), e2, rd_e]
    exact ⟨by omega, rfl⟩
  · have e2 : k ≠ cx q := fun h => e (by rw [h, dx_cx hq])
    rw [if_neg e, rd_k e2]
    exact L k hk
theorem s_offer {q : List Nat} {l : Nat} (S : Sr lab D h n w) (hq : okr 5 q) (hlf : l < far) (hd : D q = true → lab q ≤ l) :
    ∃ h2 n2 w2, sem (d + 4) 85 [.ref 11, .int (nI (cx q)), .int (nI l)] w = some (none, w2) ∧ frm 11 15 w w2 ∧ Sr (upLb lab q l) D h2 n2 w2 := by
  have hn := S.n_le
  obtain ⟨L, F, W, K, H, P, M⟩ := S
  have ff := far_lt
  have hc := cx_lt hq
  have e1 := s_at (d := d + 2) (a := 12) (k := cx q) (w := w) rfl (by show _ < 3906; exact hc)
  rw [(L _ hc).2] at e1
  dsimp only at e1
  rw [dx_cx hq] at e1
  have hfq := F q hq
  by_cases hl : l < lab q
  · have e2 := s_put (d := d + 2) (a := 12) (k := cx q) (x := nI l) (w := w) rfl (by show _ < 3906; exact hc)
    have hdq : D q = false := by
      cases hh : D q with
      | false => rfl
      | true => have := hd hh; omega
    have L2 := L.put hq hl hlf
    have f2 : frm 11 15 w (updI w 12 (cx q) (nI l)) := frm.upI w (by decide) (by decide)
    have F2 : ∀ r, okr 5 r → upLb lab q l r ≤ far := by
      intro r hr
      unfold upLb
      split
      · omega
      · exact F r hr
    have P2 : PF h n (updI w 12 (cx q) (nI l)) := fun i hi => by
      rw [rd_n (by decide), rd_n (by decide)]
      exact P i hi
    have uq : upLb lab q l q = l := by unfold upLb; rw [if_pos rfl, Nat.min_eq_right (by omega)]
    have un : ∀ r, r ≠ q → upLb lab q l r = lab r := fun r hr => if_neg hr
    by_cases hf : lab q = far
    · -- new
      have hno : ∀ i, i < n → h i ≠ cx q := fun i hi he => by
        have := ((M q hq).mp ⟨i, hi, he⟩).1
        omega
      have K3 : okp (fun i => if i = n then cx q else h i) (n + 1) := by
        refine ⟨fun i hi => ?_, fun i j hi hj he => ?_⟩
        · dsimp only
          by_cases a : i = n
          · rw [if_pos a]; exact hc
          · rw [if_neg a]; exact K.1 i (by omega)
        · try dsimp only at he
          by_cases a : i = n
          · rw [if_pos a] at he
            by_cases b : j = n
            · omega
            · rw [if_neg b] at he; exact absurd he.symm (hno j (by omega))
          · rw [if_neg a] at he
            by_cases b : j = n
            · rw [if_pos b] at he; exact absurd he (hno i (by omega))
            · rw [if_neg b] at he; exact K.2 i j (by omega) (by omega) he
      have hn1 := pigeon 3906 (n + 1) _ K3.1 K3.2
      have hold : ∀ i, i < n → (fun k => upLb lab q l (dx 5 k)) (h i) = lab (dx 5 (h i)) := fun i hi => un _ (fun he => hno i hi (by rw [← he, cx_dx5 (K.1 i hi)]))
      have R3 : rsI (fun k => upLb lab q l (dx 5 k)) (fun i => if i = n then cx q else h i) (n + 1) n := hea.new (fun i i1 i2 => by
        have := H i i1 i2
        dsimp only at this ⊢
        rw [if_neg (by omega), if_neg (by omega)]
        have a1 := hold i i2
        have a2 := hold ((i - 1) / 2) (by omega)
        dsimp only at a1 a2
        rw [a1, a2]
        exact this)
      have P3 : PH (fun i => if i = n then cx q else h i) (n + 1) n (updI w 12 (cx q) (nI l)) := fun i hi hin => by
        try dsimp only
        rw [if_neg hin]
        exact P2 i (by omega)
      obtain ⟨h2, w2, g1, g2, g3, g4, g5, g6⟩ := s_rise (d := d) hn1 L2 K3 R3 P3
      try dsimp only at g1
      rw [if_pos rfl] at g1
      have W2 : w2.1 11 3 = nI n := by rw [(g2 11 (Or.inl (by decide))).1, rd_n (by decide)]; exact W
      refine ⟨h2, n + 1, updI w2 11 3 (nI (n + 1)), ?_, (f2.trans (g2.wide (by decide) (by decide))).trans (frm.upI _ (by decide) (by decide)), ?_, F2, rd_e, g3, g4, ?_, ?_⟩
      · have t := p_X6_offer_0TF_R (ex := sem (d + 3)) (x1 := nI (cx q)) (x2 := nI l) e1 (nI_lt hl (by omega)) e2 (by rw [hf]; rfl) (by rw [rd_n (by decide), W]; exact g1)
        rw [W2, nI_1] at t
        exact e_X6_offer.trans t
      · intro k hk
        refine ⟨(L2 k hk).1, ?_⟩
        rw [rd_n (by decide), (g2 12 (Or.inl (by decide))).1]
        exact (L2 k hk).2
      · intro i hi
        rw [rd_n (by decide), rd_n (by decide)]
        exact g6 i hi
      · intro r hr
        rw [← g5 (cx r)]
        by_cases hrq : r = q
        · rw [hrq, uq]
          exact ⟨fun _ => ⟨hlf, hdq⟩, fun _ => ⟨n, by omega, if_pos rfl⟩⟩
        · rw [un r hrq, ← M r hr]
          constructor
          · rintro ⟨i, hi, he⟩
            try dsimp only at he
            by_cases a : i = n
            · rw [if_pos a] at he
              exact absurd (cx_inj hq.2 hr.2 he).symm hrq
            · rw [if_neg a] at he
              exact ⟨i, by omega, he⟩
          · rintro ⟨i, hi, he⟩
            exact ⟨i, by omega, by dsimp only; rw [if_neg (by omega)]; exact he⟩
    · -- one that is there
      obtain ⟨s, hs, hsq⟩ := (M q hq).mpr ⟨by omega, hdq⟩
      have e3 := s_at (d := d + 2) (a := 14) (k := cx q) (w := updI w 12 (cx q) (nI l)) rfl (by show _ < 3906; exact hc)
      have e4 := (P2 s hs).2
      rw [hsq] at e4
      rw [e4] at e3
      have hne : ∀ i, i < n → i ≠ s → (fun k => upLb lab q l (dx 5 k)) (h i) = (fun k => lab (dx 5 k)) (h i) := fun i hi his => un _ (fun he => his (K.2 i s hi hs (by rw [hsq, ← he, cx_dx5 (K.1 i hi)])))
      have hsl : (fun k => upLb lab q l (dx 5 k)) (h s) ≤ (fun k => lab (dx 5 k)) (h s) := by
        try dsimp only
        rw [hsq, dx_cx hq, uq]
        omega
      have R3 := hea.fall (lab2 := fun k => upLb lab q l (dx 5 k)) H hs hsl hne
      obtain ⟨h2, w2, g1, g2, g3, g4, g5, g6⟩ := s_rise (d := d) hn L2 K R3 (fun i hi _ => P2 i hi)
      rw [hsq] at g1
      refine ⟨h2, n, w2, ?_, f2.trans (g2.wide (by decide) (by decide)), L2.frm g2, F2, ?_, g3, g4, g6, ?_⟩
      · refine e_X6_offer.trans (p_X6_offer_0TT_R e1 (nI_lt hl (by omega)) e2 (fun he => hf ?_) e3 g1)
        exact (nI_eq (a := lab q) (b := far) (by omega) far_lt).mp he
      · rw [(g2 11 (Or.inl (by decide))).1, rd_n (by decide)]; exact W
      · intro r hr
        rw [← g5 (cx r), M r hr]
        by_cases hrq : r = q
        · rw [hrq, uq]
          exact ⟨fun _ => ⟨hlf, hdq⟩, fun _ => ⟨by omega, hdq⟩⟩
        · rw [un r hrq]
  · rw [upLb_hi hl]
    exact ⟨h, n, w, e_X6_offer.trans (p_X6_offer_0F_R e1 (nI_nlt (by omega) (by omega))), frm.refl _ _ _, L, F, W, K, H, P, M⟩
theorem s_takeLeast (S : Sr lab D h n w) (hn : 0 < n) :
    ∃ h2 w2, sem (d + 4) 86 [.ref 11] w = some (some (.int (nI (h 0))), w2) ∧ frm 11 15 w w2 ∧ Sr lab (fun r => D r || decide (r = dx 5 (h 0))) h2 (n - 1) w2 := by
  have hn2 := S.n_le
  obtain ⟨L, F, W, K, H, P, M⟩ := S
  have hr0 := K.1 0 hn
  have e1 := s_at (d := d + 2) (a := 13) (k := 0) (w := w) rfl (by show 0 < 3906; decide)
  rw [(P 0 hn).1] at e1
  obtain ⟨m, rfl⟩ : ∃ m, n = m + 1 := ⟨n - 1, by omega⟩
  have e2 : (w.1 11 3) - 1 = nI m := by rw [W]; exact nI_pred m
  have L2 : LB (fun k => lab (dx 5 k)) (updI w 11 3 (nI m)) := fun k hk => ⟨(L k hk).1, by rw [rd_n (by decide)]; exact (L k hk).2⟩
  have M2 : ∀ r, okr 5 r → ((∃ i, i < m + 1 ∧ i ≠ 0 ∧ h i = cx r) ↔ lab r < far ∧ (D r || decide (r = dx 5 (h 0))) = false) := by
    intro r hr
    rw [Bool.or_eq_false_iff]
    constructor
    · rintro ⟨i, hi, hi0, he⟩
      have := (M r hr).mp ⟨i, hi, he⟩
      refine ⟨this.1, this.2, decide_eq_false (fun hh => hi0 ?_)⟩
      refine K.2 i 0 hi hn ?_
      rw [he, hh, cx_dx5 hr0]
    · rintro ⟨a, b, cc⟩
      obtain ⟨i, hi, he⟩ := (M r hr).mpr ⟨a, b⟩
      refine ⟨i, hi, fun h0 => ?_, he⟩
      have := of_decide_eq_false cc
      exact this (by rw [← dx_cx hr, ← he, h0])
  have f2 : frm 11 15 w (updI w 11 3 (nI m)) := frm.upI w (by decide) (by decide)
  by_cases hm : m = 0
  · subst hm
    refine ⟨h, _, e_X6_takeLeast.trans (p_X6_takeLeast_0T_R e1 (by rw [e2]; decide)), by rw [e2]; exact f2, by rw [e2]; exact L2, F, by rw [e2]; exact rd_e, ⟨fun i hi => absurd hi (Nat.not_lt_zero _), fun i j hi => absurd hi (Nat.not_lt_zero _)⟩, fun i i1 i2 => absurd i2 (Nat.not_lt_zero _), fun i hi => absurd hi (Nat.not_lt_zero _), fun r hr => ?_⟩
    rw [← M2 r hr]
    constructor
    · rintro ⟨i, hi, _⟩; exact absurd hi (Nat.not_lt_zero _)
    · rintro ⟨i, hi, hi0, _⟩; omega
  · have e3 := s_at (d := d + 2) (a := 13) (k := m) (w := updI w 11 3 (nI m)) rfl (by show m < 3906; omega)
    rw [rd_n (by decide), (P m (by omega)).1] at e3
    have K3 : okp (fun i => if i = 0 then h m else h i) m := by
      refine ⟨fun i hi => ?_, fun i j hi hj he => ?_⟩
      · dsimp only
        split
        · exact K.1 m (by omega)
        · exact K.1 i (by omega)
      · try dsimp only at he
        by_cases a : i = 0
        · rw [if_pos a] at he
          by_cases b : j = 0
          · omega
          · rw [if_neg b] at he; have := K.2 m j (by omega) (by omega) he; omega
        · rw [if_neg a] at he
          by_cases b : j = 0
          · rw [if_pos b] at he; have := K.2 i m (by omega) (by omega) he; omega
          · rw [if_neg b] at he; exact K.2 i j (by omega) (by omega) he
    have R3 := hea.last H (by omega)
    have P3 : PH (fun i => if i = 0 then h m else h i) m 0 (updI w 11 3 (nI m)) := fun i hi hi0 => by
      try dsimp only
      rw [if_neg hi0, rd_n (by decide), rd_n (by decide)]
      exact P i (by omega)
    obtain ⟨h2, w2, g1, g2, g3, g4, g5, g6⟩ := s_sink (d := d) (by omega) L2 rd_e K3 R3 P3
    try dsimp only at g1
    rw [if_pos rfl] at g1
    refine ⟨h2, w2, e_X6_takeLeast.trans (p_X6_takeLeast_0F_R e1 (by rw [e2]; exact nI_nle (by omega) (by omega)) (by rw [e2]; exact e3) g1), f2.trans (g2.wide (by decide) (by decide)), L2.frm g2, F, ?_, g3, g4, g6, fun r hr => ?_⟩
    · rw [(g2 11 (Or.inl (by decide))).1, rd_e]; rfl
    · rw [← M2 r hr, show m + 1 - 1 = m from rfl, ← g5 (cx r)]
      constructor
      · rintro ⟨i, hi, he⟩
        try dsimp only at he
        by_cases a : i = 0
        · rw [if_pos a] at he; exact ⟨m, by omega, hm, he⟩
        · rw [if_neg a] at he; exact ⟨i, by omega, a, he⟩
      · rintro ⟨i, hi, hi0, he⟩
        by_cases a : i = m
        · exact ⟨0, by omega, by dsimp only; rw [if_pos rfl, ← a]; exact he⟩
        · exact ⟨i, by omega, by dsimp only; rw [if_neg hi0]; exact he⟩
end XSEA

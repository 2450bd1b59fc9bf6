/-! the reference: its tokens -/
/-- a row of bytes as one number -/
def bnm (bt : Nat → Nat) (s : Nat) : Nat → Nat
  | 0 => 0
  | k + 1 => 256 * bnm bt s k + bt (s + k)
theorem bnm_inj {bt bt2 : Nat → Nat} {s s2 : Nat} : ∀ (k k2 : Nat), (∀ t, t < k → 0 < bt (s + t) ∧ bt (s + t) < 256) → (∀ t, t < k2 → 0 < bt2 (s2 + t) ∧ bt2 (s2 + t) < 256) → bnm bt s k = bnm bt2 s2 k2 → k = k2 ∧ ∀ t, t < k → bt (s + t) = bt2 (s2 + t) := by
  intro k
  induction k with
  | zero =>
    intro k2 _ h2 h
    cases k2 with
    | zero => exact ⟨rfl, fun t ht => absurd ht (Nat.not_lt_zero _)⟩
    | succ k2 =>
      exfalso
      have := (h2 k2 (by omega)).1
      simp only [bnm] at h
      omega
  | succ k ih =>
    intro k2 h1 h2 h
    cases k2 with
    | zero =>
      exfalso
      have := (h1 k (by omega)).1
      simp only [bnm] at h
      omega
    | succ k2 =>
      have a1 := h1 k (by omega)
      have a2 := h2 k2 (by omega)
      simp only [bnm] at h
      have e1 : bt (s + k) = bt2 (s2 + k2) := by omega
      have e2 : bnm bt s k = bnm bt2 s2 k2 := by omega
      obtain ⟨g1, g2⟩ := ih k2 (fun t ht => h1 t (by omega)) (fun t ht => h2 t (by omega)) e2
      subst g1
      refine ⟨rfl, fun t ht => ?_⟩
      by_cases et : t = k
      · rw [et]; exact e1
      · exact g2 t (by omega)
theorem bnm_lt {bt : Nat → Nat} {s : Nat} : ∀ k, (∀ t, t < k → bt (s + t) < 256) → bnm bt s k < 256 ^ k := by
  intro k
  induction k with
  | zero => intro _; exact Nat.one_pos
  | succ k ih =>
    intro h
    have h1 := ih (fun t ht => h t (by omega))
    have h2 := h k (by omega)
    rw [Nat.pow_succ]
    simp only [bnm]
    omega
def wrf (j t : Nat) : Nat := (wrd j).getD t 0
/-- the words as numbers -/
def wrn (j : Nat) : Nat := bnm (wrf j) 0 (wrd j).length
theorem wrn_lt : ∀ j, j < 6 → wrn j < 2 ^ 48 := by decide +kernel
theorem wrn_of {bt : Nat → Nat} {s e j : Nat} (hj : j < 6) (hb : ∀ t, t < e - s → 97 ≤ bt (s + t) ∧ bt (s + t) ≤ 122) : bnm bt s (min 6 (e - s)) = wrn j ↔ wl bt s e = wrd j := by
  have h5 := wrd_len j hj
  obtain ⟨_, _, q3⟩ := wrd_st j hj
  have hw : ∀ t, t < (wrd j).length → 0 < wrf j (0 + t) ∧ wrf j (0 + t) < 256 := fun t ht => by
    rw [Nat.zero_add]
    have := q3 t ht
    unfold wrf
    omega
  constructor
  · intro h
    obtain ⟨g1, g2⟩ := bnm_inj (min 6 (e - s)) (wrd j).length (fun t ht => by have := hb t (by omega); omega) hw h
    have g3 : e - s = (wrd j).length := by omega
    apply List.ext_getElem?
    intro t
    rcases Nat.lt_or_ge t (e - s) with ht | ht
    · rw [wl_at ht, g2 t (by omega), Nat.zero_add]
      unfold wrf
      rw [List.getD_eq_getElem?_getD, List.getElem?_eq_getElem (by omega)]
      rfl
    · rw [List.getElem?_eq_none (by rw [wl_len]; exact ht), List.getElem?_eq_none (by omega)]
  · intro h
    have g3 : e - s = (wrd j).length := by rw [← h, wl_len]
    rw [show min 6 (e - s) = (wrd j).length by omega]
    have key : ∀ k, k ≤ (wrd j).length → bnm bt s k = bnm (wrf j) 0 k := by
      intro k
      induction k with
      | zero => intro _; rfl
      | succ k ih =>
        intro hk
        have e1 := wl_at (bt := bt) (s := s) (e := e) (k := k) (by omega)
        rw [h] at e1
        show 256 * bnm bt s k + bt (s + k) = 256 * bnm (wrf j) 0 k + wrf j (0 + k)
        rw [ih (by omega), Nat.zero_add]
        unfold wrf
        rw [List.getD_eq_getElem?_getD, e1]
        rfl
    exact key _ (Nat.le_refl _)
/-- the reference's number of a word -/
def wnI (u : Nat) : Int32 := if u = wrn 0 then 0 else if u = wrn 1 then 1 else if u = wrn 2 then 2 else if u = wrn 3 then 3 else if u = wrn 4 then 4 else if u = wrn 5 then 5 else -9
theorem wnI_of {bt : Nat → Nat} {s e : Nat} (hb : ∀ t, t < e - s → 97 ≤ bt (s + t) ∧ bt (s + t) ≤ 122) : (wdK (wl bt s e) = 0 ∧ wnI (bnm bt s (min 6 (e - s))) = -9) ∨ (4 ≤ wdK (wl bt s e) ∧ wdK (wl bt s e) ≤ 9 ∧ wnI (bnm bt s (min 6 (e - s))) = nI (wdK (wl bt s e) - 4)) := by
  unfold wdK wnI
  by_cases h0 : wl bt s e = wrd 0
  · rw [if_pos h0, if_pos ((wrn_of (by decide) hb).mpr h0)]; exact Or.inr ⟨by decide, by decide, by decide⟩
  rw [if_neg h0, if_neg (fun h => h0 ((wrn_of (by decide) hb).mp h))]
  by_cases h1 : wl bt s e = wrd 1
  · rw [if_pos h1, if_pos ((wrn_of (by decide) hb).mpr h1)]; exact Or.inr ⟨by decide, by decide, by decide⟩
  rw [if_neg h1, if_neg (fun h => h1 ((wrn_of (by decide) hb).mp h))]
  by_cases h2 : wl bt s e = wrd 2
  · rw [if_pos h2, if_pos ((wrn_of (by decide) hb).mpr h2)]; exact Or.inr ⟨by decide, by decide, by decide⟩
  rw [if_neg h2, if_neg (fun h => h2 ((wrn_of (by decide) hb).mp h))]
  by_cases h3 : wl bt s e = wrd 3
  · rw [if_pos h3, if_pos ((wrn_of (by decide) hb).mpr h3)]; exact Or.inr ⟨by decide, by decide, by decide⟩
  rw [if_neg h3, if_neg (fun h => h3 ((wrn_of (by decide) hb).mp h))]
  by_cases h4 : wl bt s e = wrd 4
  · rw [if_pos h4, if_pos ((wrn_of (by decide) hb).mpr h4)]; exact Or.inr ⟨by decide, by decide, by decide⟩
  rw [if_neg h4, if_neg (fun h => h4 ((wrn_of (by decide) hb).mp h))]
  by_cases h5 : wl bt s e = wrd 5
  · rw [if_pos h5, if_pos ((wrn_of (by decide) hb).mpr h5)]; exact Or.inr ⟨by decide, by decide, by decide⟩
  rw [if_neg h5, if_neg (fun h => h5 ((wrn_of (by decide) hb).mp h))]
  exact Or.inl ⟨rfl, rfl⟩
/-- the text as the reference holds it -/
def MT (bt : Nat → Nat) (n : Nat) (w : Wd) : Prop := w.1 34 3 = nI n ∧ ∀ i, i < n → w.1 35 i = nI (bt i)
/-- nothing but the token changes -/
def atf (w w2 : Wd) : Prop := (∀ q, q ≠ 34 → w2.1 q = w.1 q) ∧ (∀ j, j ≠ 4 → j ≠ 5 → j ≠ 6 → j ≠ 7 → w2.1 34 j = w.1 34 j) ∧ w2.2 = w.2
theorem atf.refl (w : Wd) : atf w w := ⟨fun _ _ => rfl, fun _ _ _ _ _ => rfl, rfl⟩
theorem atf.trans {w w2 w3 : Wd} (a : atf w w2) (b : atf w2 w3) : atf w w3 := ⟨fun q h => (b.1 q h).trans (a.1 q h), fun j h1 h2 h3 h4 => (b.2.1 j h1 h2 h3 h4).trans (a.2.1 j h1 h2 h3 h4), b.2.2.trans a.2.2⟩
theorem atf.up (w : Wd) {k : Nat} (x : Int32) (hk : k = 4 ∨ k = 5 ∨ k = 6 ∨ k = 7) : atf w (updI w 34 k x) := ⟨fun q h => if_neg h, fun j h1 h2 h3 h4 => rd_k (by omega), rfl⟩
theorem MT.atf {bt : Nat → Nat} {n : Nat} {w w2 : Wd} (X : MT bt n w) (h : atf w w2) : MT bt n w2 := by
  unfold MT at *
  rw [h.1 35 (by decide), h.2.1 3 (by decide) (by decide) (by decide) (by decide)]
  exact X
def bI (bt : Nat → Nat) (n i : Nat) : Int32 := if i < n then nI (bt i) else -1
section MTOK
variable {d : Nat} {bt : Nat → Nat} {n : Nat}
theorem m_byteAt {i : Nat} {w : Wd} (T : MT bt n w) (ho : okt bt n) (hi : i ≤ n) : sem (d + 1) 139 [.ref 34, .int (nI i)] w = some (some (.int (bI bt n i)), w) := by
  have h3 := ho.1
  unfold bI
  by_cases h : i < n
  · rw [if_pos h]
    have t := p_X9_byteAt_0F_R (ex := sem d) (x1 := nI i) (w := w) (by rw [T.1]; exact nI_ge h (by omega)) (vp_in_nI (by omega) (by decide))
    rw [nI_clamp (by omega), T.2 i h] at t
    exact e_X9_byteAt.trans t
  · rw [if_neg h]
    exact e_X9_byteAt.trans (p_X9_byteAt_0T_R (by rw [T.1]; exact nI_le (by omega) (by omega)))
theorem m_inB {i lo hi : Nat} {w : Wd} (ho : okt bt n) (h1 : lo < 2 ^ 31) (h2 : hi < 2 ^ 31) : sem (d + 1) 135 [.int (bI bt n i), .int (nI lo), .int (nI hi)] w = some (some (.int (b2i (decide (i < n ∧ lo ≤ bt i ∧ bt i ≤ hi)))), w) := by
  unfold bI
  by_cases h : i < n
  · have hb := ho.2 i h
    rw [if_pos h, m_inN (by omega) h1 h2]
    congr 5
    exact decide_eq_decide.mpr ⟨fun g => ⟨h, g⟩, fun g => g.2⟩
  · rw [if_neg h, b2i_f (decide_eq_false (fun g => h g.1))]
    refine e_X9_in.trans (p_X9_in_0T_R ?_)
    have := nI_pos (n := lo) h1
    rw [fa_lt] at this ⊢
    have e0 : (0 : Int32).toInt = 0 := by decide
    have e1 : (-1 : Int32).toInt = -1 := by decide
    rw [e0] at this
    rw [e1]
    omega
theorem m_add0 {a b : Nat} {w : Wd} (hb : 0 < b) (h2 : b < 2 ^ 31) : sem (d + 1) 140 [.long (lN a), .int (nI b)] w = some (some (.long (lN (256 * a + b))), w) := by
  refine e_X9_add.trans ((p_X9_add_0T_R (nI_ne0 hb h2)).trans ?_)
  rw [nI_l h2]
  have e : (256 : Int64) * lN a = lN (256 * a) := lN_mul 256 a
  rw [e, lN_add]
theorem m_addz {a : Nat} {w : Wd} : sem (d + 1) 140 [.long (lN a), .int 0] w = some (some (.long (lN a)), w) := e_X9_add.trans (p_X9_add_0F_R rfl)
theorem m_named5 {a b c e f : Nat} {w : Wd} (ha : 0 < a ∧ a < 256) (hb : 0 < b ∧ b < 256) (hc : 0 < c ∧ c < 256) (he : 0 < e ∧ e < 256) (hf : 0 < f ∧ f < 256) : sem (d + 2) 141 [.int (nI a), .int (nI b), .int (nI c), .int (nI e), .int (nI f)] w = some (some (.long (lN (256 * (256 * (256 * (256 * (256 * 0 + a) + b) + c) + e) + f))), w) :=
  e_X9_named.trans (p_X9_named_0_R (m_add0 (a := 0) ha.1 (by omega)) (m_add0 hb.1 (by omega)) (m_add0 hc.1 (by omega)) (m_add0 he.1 (by omega)) (m_add0 hf.1 (by omega)))
theorem m_named4 {a b c e : Nat} {w : Wd} (ha : 0 < a ∧ a < 256) (hb : 0 < b ∧ b < 256) (hc : 0 < c ∧ c < 256) (he : 0 < e ∧ e < 256) : sem (d + 2) 141 [.int (nI a), .int (nI b), .int (nI c), .int (nI e), .int 0] w = some (some (.long (lN (256 * (256 * (256 * (256 * 0 + a) + b) + c) + e))), w) :=
  e_X9_named.trans (p_X9_named_0_R (m_add0 (a := 0) ha.1 (by omega)) (m_add0 hb.1 (by omega)) (m_add0 hc.1 (by omega)) (m_add0 he.1 (by omega)) m_addz)
theorem m_named3 {a b c : Nat} {w : Wd} (ha : 0 < a ∧ a < 256) (hb : 0 < b ∧ b < 256) (hc : 0 < c ∧ c < 256) : sem (d + 2) 141 [.int (nI a), .int (nI b), .int (nI c), .int 0, .int 0] w = some (some (.long (lN (256 * (256 * (256 * 0 + a) + b) + c))), w) :=
  e_X9_named.trans (p_X9_named_0_R (m_add0 (a := 0) ha.1 (by omega)) (m_add0 hb.1 (by omega)) (m_add0 hc.1 (by omega)) m_addz m_addz)
theorem m_wordOf {u : Nat} {w : Wd} (hu : u < 2 ^ 48) : sem (d + 3) 142 [.long (lN u)] w = some (some (.int (wnI u)), w) := by
  have n0 : sem (d + 2) 141 [.int 115, .int 112, .int 101, .int 108, .int 108] w = some (some (.long (lN (wrn 0))), w) := m_named5 (d := d) (a := 115) (b := 112) (c := 101) (e := 108) (f := 108) (by decide) (by decide) (by decide) (by decide) (by decide)
  have n1 : sem (d + 2) 141 [.int 116, .int 104, .int 105, .int 110, .int 103] w = some (some (.long (lN (wrn 1))), w) := m_named5 (d := d) (a := 116) (b := 104) (c := 105) (e := 110) (f := 103) (by decide) (by decide) (by decide) (by decide) (by decide)
  have n2 : sem (d + 2) 141 [.int 112, .int 117, .int 112, .int 105, .int 108] w = some (some (.long (lN (wrn 2))), w) := m_named5 (d := d) (a := 112) (b := 117) (c := 112) (e := 105) (f := 108) (by decide) (by decide) (by decide) (by decide) (by decide)
  have n3 : sem (d + 2) 141 [.int 115, .int 119, .int 97, .int 112, .int 0] w = some (some (.long (lN (wrn 3))), w) := m_named4 (d := d) (a := 115) (b := 119) (c := 97) (e := 112) (by decide) (by decide) (by decide) (by decide)
  have n4 : sem (d + 2) 141 [.int 99, .int 111, .int 112, .int 121, .int 0] w = some (some (.long (lN (wrn 4))), w) := m_named4 (d := d) (a := 99) (b := 111) (c := 112) (e := 121) (by decide) (by decide) (by decide) (by decide)
  have n5 : sem (d + 2) 141 [.int 104, .int 117, .int 109, .int 0, .int 0] w = some (some (.long (lN (wrn 5))), w) := m_named3 (d := d) (a := 104) (b := 117) (c := 109) (by decide) (by decide) (by decide)
  have cm : ∀ j, j < 6 → (lg_cmp (lN u) (lN (wrn j)) = 0 ↔ u = wrn j) := fun j hj => by
    have := wrn_lt j hj
    rw [lg_cmp_eq, pk_lEQ (by omega) (by omega)]
  have dis : ∀ i j, i < 6 → j < 6 → i ≠ j → wrn i ≠ wrn j := by
    have : ∀ i, i < 6 → ∀ j, j < 6 → i ≠ j → wrn i ≠ wrn j := by decide +kernel
    exact fun i j hi hj h => this i hi j hj h
  unfold wnI
  refine e_X9_wordOf.trans ?_
  have ne : ∀ i j, i < 6 → j < 6 → i ≠ j → u = wrn i → ¬ lg_cmp (lN u) (lN (wrn j)) = 0 := fun i j hi hj h hu => fun g => dis i j hi hj h (hu.symm.trans ((cm j hj).mp g))
  by_cases h0 : u = wrn 0
  · rw [if_pos h0]
    exact p_X9_wordOf_0FTTT_R n0 ((cm 0 (by decide)).mpr h0) n3 (ne 0 3 (by decide) (by decide) (by decide) h0) n4 (ne 0 4 (by decide) (by decide) (by decide) h0) n5 (ne 0 5 (by decide) (by decide) (by decide) h0)
  have g0 := fun h => h0 ((cm 0 (by decide)).mp h)
  rw [if_neg h0]
  by_cases h1 : u = wrn 1
  · rw [if_pos h1]
    exact p_X9_wordOf_0TFTTT_R n0 g0 n1 ((cm 1 (by decide)).mpr h1) n3 (ne 1 3 (by decide) (by decide) (by decide) h1) n4 (ne 1 4 (by decide) (by decide) (by decide) h1) n5 (ne 1 5 (by decide) (by decide) (by decide) h1)
  have g1 := fun h => h1 ((cm 1 (by decide)).mp h)
  rw [if_neg h1]
  by_cases h2 : u = wrn 2
  · rw [if_pos h2]
    exact p_X9_wordOf_0TTFTTT_R n0 g0 n1 g1 n2 ((cm 2 (by decide)).mpr h2) n3 (ne 2 3 (by decide) (by decide) (by decide) h2) n4 (ne 2 4 (by decide) (by decide) (by decide) h2) n5 (ne 2 5 (by decide) (by decide) (by decide) h2)
  have g2 := fun h => h2 ((cm 2 (by decide)).mp h)
  rw [if_neg h2]
  by_cases h3 : u = wrn 3
  · rw [if_pos h3]
    exact p_X9_wordOf_0TTTFT_R n0 g0 n1 g1 n2 g2 n3 ((cm 3 (by decide)).mpr h3) n5 (ne 3 5 (by decide) (by decide) (by decide) h3)
  have g3 := fun h => h3 ((cm 3 (by decide)).mp h)
  rw [if_neg h3]
  by_cases h4 : u = wrn 4
  · rw [if_pos h4]
    exact p_X9_wordOf_0TTTTFT_R n0 g0 n1 g1 n2 g2 n3 g3 n4 ((cm 4 (by decide)).mpr h4) n5 (ne 4 5 (by decide) (by decide) (by decide) h4)
  have g4 := fun h => h4 ((cm 4 (by decide)).mp h)
  rw [if_neg h4]
  by_cases h5 : u = wrn 5
  · rw [if_pos h5]
    exact p_X9_wordOf_0TTTTTF_R n0 g0 n1 g1 n2 g2 n3 g3 n4 g4 n5 ((cm 5 (by decide)).mpr h5)
  have g5 := fun h => h5 ((cm 5 (by decide)).mp h)
  rw [if_neg h5]
  exact p_X9_wordOf_0TTTTTT_R n0 g0 n1 g1 n2 g2 n3 g3 n4 g4 n5 g5
/-- the reference's number of a sort of token -/
def mtk (k : Nat) : Int32 := if k = 0 then 4 else if k = 1 then 0 else if k = 2 then 3 else if k = 3 then 2 else 1
theorem l_aword {s : Nat} (ho : okt bt n) : ∀ (m i : Nat) (v1 : Value) (w : Wd), m + i = n → s ≤ i → (∀ j, s ≤ j → j < i → isLt (bt j) = true) → MT bt n w → w.1 34 6 = nI s → w.1 34 4 = nI i →
    ∃ w2, runs (T_X9_advances (sem (d + 3))) (68, [.ref 34, v1, .long (lN (bnm bt s (min 6 (i - s)))), .null], [], w) = some (none, w2) ∧ atf w w2 ∧ w2.1 34 6 = nI s ∧ w2.1 34 4 = nI (rE isLt bt n i) ∧ w2.1 34 5 = mtk (wdK (wl bt s (rE isLt bt n i))) ∧ (4 ≤ wdK (wl bt s (rE isLt bt n i)) → w2.1 34 7 = nI (wdK (wl bt s (rE isLt bt n i)) - 4)) := by
  have h3 := ho.1
  have fin : ∀ (i : Nat) (v1 : Value) (w : Wd), i ≤ n → s ≤ i → (∀ j, s ≤ j → j < i → isLt (bt j) = true) → MT bt n w → w.1 34 6 = nI s → w.1 34 4 = nI i → decide (i < n ∧ 97 ≤ bt i ∧ bt i ≤ 122) = false →
      ∃ w2, runs (T_X9_advances (sem (d + 3))) (68, [.ref 34, v1, .long (lN (bnm bt s (min 6 (i - s)))), .null], [], w) = some (none, w2) ∧ atf w w2 ∧ w2.1 34 6 = nI s ∧ w2.1 34 4 = nI i ∧ w2.1 34 5 = mtk (wdK (wl bt s i)) ∧ (4 ≤ wdK (wl bt s i) → w2.1 34 7 = nI (wdK (wl bt s i) - 4)) := by
    intro i v1 w hi hsi hlt T W6 W4 hf
    have hb : ∀ t, t < i - s → 97 ≤ bt (s + t) ∧ bt (s + t) ≤ 122 := fun t ht => of_decide_eq_true (hlt (s + t) (by omega) (by omega))
    have b1 := m_byteAt (d := d + 2) T ho hi
    rw [← W4] at b1
    have b2 := m_inB (d := d + 2) (i := i) (lo := 97) (hi := 122) (w := w) ho (by decide) (by decide)
    rw [hf] at b2
    have hlb := bnm_lt (bt := bt) (s := s) (min 6 (i - s)) (fun t ht => by have := hb t (by omega); omega)
    have hp6 : 256 ^ (min 6 (i - s)) ≤ 256 ^ 6 := Nat.pow_le_pow_right (by decide) (Nat.min_le_left _ _)
    have e6 : 256 ^ 6 = 2 ^ 48 := by decide
    have b3 := m_wordOf (d := d) (w := w) (u := bnm bt s (min 6 (i - s))) (by omega)
    have f : ∀ x y, atf w (updI (updI w 34 7 x) 34 5 y) := fun x y => (atf.up w _ (by omega)).trans (atf.up _ _ (by omega))
    rcases wnI_of (bt := bt) (s := s) (e := i) hb with ⟨z1, z2⟩ | ⟨z1, z2, z3⟩
    · rw [z2] at b3
      refine ⟨_, p_X9_advances_68TF_R b1 b2 rfl b3 rfl, f _ _, ?_, ?_, ?_, fun h => by omega⟩
      · rw [rd_k (by decide), rd_k (by decide)]; exact W6
      · rw [rd_k (by decide), rd_k (by decide)]; exact W4
      · rw [rd_e, z1]; rfl
    · rw [z3] at b3
      refine ⟨_, p_X9_advances_68TT_R b1 b2 rfl b3 (fun h => ?_), f _ _, ?_, ?_, ?_, fun _ => ?_⟩
      · have := nI_pos (n := wdK (wl bt s i) - 4) (by omega)
        rw [h] at this
        exact this (by decide)
      · rw [rd_k (by decide), rd_k (by decide)]; exact W6
      · rw [rd_k (by decide), rd_k (by decide)]; exact W4
      · rw [rd_e]
        unfold mtk
        rw [if_neg (by omega), if_neg (by omega), if_neg (by omega), if_neg (by omega)]
      · rw [rd_k (by decide), rd_e]
  intro m
  induction m with
  | zero =>
    intro i v1 w hi hsi hlt T W6 W4
    rw [rE_ge (by omega)]
    exact fin i v1 w (by omega) hsi hlt T W6 W4 (decide_eq_false (fun h => by omega))
  | succ m ih =>
    intro i v1 w hi hsi hlt T W6 W4
    have hin : i < n := by omega
    have hbi := ho.2 i hin
    cases hl : isLt (bt i) with
    | false =>
      rw [rE_f hin hl]
      exact fin i v1 w (by omega) hsi hlt T W6 W4 (decide_eq_false (fun h => by have := of_decide_eq_false hl; exact this h.2))
    | true =>
      rw [rE_t hin hl]
      have hr := of_decide_eq_true hl
      have b1 := m_byteAt (d := d + 2) T ho (Nat.le_of_lt hin)
      rw [← W4] at b1
      have b2 := m_inB (d := d + 2) (i := i) (lo := 97) (hi := 122) (w := w) ho (by decide) (by decide)
      rw [b2i_t (decide_eq_true ⟨hin, hr⟩)] at b2
      have e0 : (w.1 34 4) - (w.1 34 6) = nI (i - s) := by rw [W4, W6]; exact pk_sub hsi
      have nx := fun v1 => ih (i + 1) v1 (updI w 34 4 (nI (i + 1))) (by omega) (by omega) (fun j h1 h2 => by
        by_cases e : j = i
        · rw [e]; exact hl
        · exact hlt j h1 (by omega)) (T.atf (atf.up w _ (by omega))) (by rw [rd_k (by decide)]; exact W6) rd_e
      obtain ⟨w2, g1, g2, g3⟩ := nx .null
      by_cases h6 : 6 ≤ i - s
      · have t := p_X9_advances_68FT_L68 (v1 := v1) (x2 := lN (bnm bt s (min 6 (i - s)))) b1 b2 (by decide) (by rw [e0]; exact nI_le (a := 6) h6 (by omega))
        rw [W4, nI_1] at t
        rw [show min 6 (i + 1 - s) = min 6 (i - s) by omega] at g1
        exact ⟨w2, t.trans g1, (atf.up w _ (by omega)).trans g2, g3⟩
      · have e1 : bI bt n i = nI (bt i) := if_pos hin
        have b1' := b1
        rw [e1] at b1'
        have b3 := m_add0 (d := d + 2) (a := bnm bt s (min 6 (i - s))) (b := bt i) (w := w) (by omega) (by omega)
        have t := p_X9_advances_68FF_L68 (v1 := v1) (x2 := lN (bnm bt s (min 6 (i - s)))) b1 b2 (by decide) (by rw [e0]; exact nI_ge (b := 6) (by omega) (by decide)) b1' b3
        rw [W4, nI_1] at t
        rw [show min 6 (i + 1 - s) = min 6 (i - s) + 1 by omega] at g1
        have e2 : bnm bt s (min 6 (i - s) + 1) = 256 * bnm bt s (min 6 (i - s)) + bt i := by
          show 256 * bnm bt s (min 6 (i - s)) + bt (s + min 6 (i - s)) = _
          rw [show s + min 6 (i - s) = i by omega]
        rw [e2] at g1
        exact ⟨w2, t.trans g1, (atf.up w _ (by omega)).trans g2, g3⟩
theorem l_anum {s : Nat} (ho : okt bt n) (hs : s < n) : ∀ (m i u v : Nat) (v2 : Value) (w : Wd), m + i = n → s ≤ i → u < 1000 → min u 100 = v → MT bt n w → w.1 34 6 = nI s → w.1 34 4 = nI i → w.1 34 7 = nI u →
    ∃ w2, runs (T_X9_advances (sem (d + 1))) (175, [.ref 34, .int (nI (bt s)), v2, .null], [], w) = some (none, w2) ∧ atf w w2 ∧ w2.1 34 6 = nI s ∧ w2.1 34 4 = nI (rE isDg bt n i) ∧ w2.1 34 5 = mtk (dgK bt s (rE isDg bt n i) (vE bt n i v)) ∧ (dgK bt s (rE isDg bt n i) (vE bt n i v) = 3 → w2.1 34 7 = nI (vE bt n i v)) := by
  have h3 := ho.1
  have hbs := ho.2 s hs
  have fin : ∀ (i u v : Nat) (v2 : Value) (w : Wd), i ≤ n → s ≤ i → u < 1000 → min u 100 = v → MT bt n w → w.1 34 6 = nI s → w.1 34 4 = nI i → w.1 34 7 = nI u → decide (i < n ∧ 48 ≤ bt i ∧ bt i ≤ 57) = false →
      ∃ w2, runs (T_X9_advances (sem (d + 1))) (175, [.ref 34, .int (nI (bt s)), v2, .null], [], w) = some (none, w2) ∧ atf w w2 ∧ w2.1 34 6 = nI s ∧ w2.1 34 4 = nI i ∧ w2.1 34 5 = mtk (dgK bt s i v) ∧ (dgK bt s i v = 3 → w2.1 34 7 = nI v) := by
    intro i u v v2 w hi hsi hu huv T W6 W4 W7 hf
    have b1 := m_byteAt (d := d) T ho hi
    rw [← W4] at b1
    have b2 := m_inB (d := d) (i := i) (lo := 48) (hi := 57) (w := w) ho (by decide) (by decide)
    rw [hf] at b2
    have e0 : (w.1 34 4) - (w.1 34 6) = nI (i - s) := by rw [W4, W6]; exact pk_sub hsi
    by_cases h99 : 99 < u
    · have e1 : dgK bt s i v = 0 := if_pos (Or.inl (by omega))
      rw [e1]
      refine ⟨_, p_X9_advances_175TT_R b1 b2 rfl (by rw [W7]; exact nI_lt (a := 99) h99 (by omega)), atf.up w _ (by omega), ?_, ?_, rd_e, fun h => absurd h (by decide)⟩
      · rw [rd_k (by decide)]; exact W6
      · rw [rd_k (by decide)]; exact W4
    · have g1 : ¬ (99 : Int32) < (w.1 34 7) := by rw [W7]; exact nI_nlt (a := 99) (b := u) (by omega) (by decide)
      have euv : v = u := by omega
      by_cases h48 : bt s = 48
      · by_cases hp : i - s ≤ 1
        · have e1 : dgK bt s i v = 3 := if_neg (by omega)
          rw [e1]
          refine ⟨_, p_X9_advances_175TFFT_R b1 b2 rfl g1 (by rw [h48]; rfl) (by rw [e0]; exact nI_le (b := 1) hp (by decide)), atf.up w _ (by omega), ?_, ?_, rd_e, fun _ => ?_⟩
          · rw [rd_k (by decide)]; exact W6
          · rw [rd_k (by decide)]; exact W4
          · rw [rd_k (by decide), W7, euv]
        · have e1 : dgK bt s i v = 0 := if_pos (Or.inr ⟨h48, by omega⟩)
          rw [e1]
          refine ⟨_, p_X9_advances_175TFFF_R b1 b2 rfl g1 (by rw [h48]; rfl) (by rw [e0]; exact nI_ge (a := 1) (by omega) (by omega)), atf.up w _ (by omega), ?_, ?_, rd_e, fun h => absurd h (by decide)⟩
          · rw [rd_k (by decide)]; exact W6
          · rw [rd_k (by decide)]; exact W4
      · have e1 : dgK bt s i v = 3 := if_neg (by omega)
        rw [e1]
        refine ⟨_, p_X9_advances_175TFT_R b1 b2 rfl g1 (fun h => h48 ((nI_eq (b := 48) (by omega) (by decide)).mp h)), atf.up w _ (by omega), ?_, ?_, rd_e, fun _ => ?_⟩
        · rw [rd_k (by decide)]; exact W6
        · rw [rd_k (by decide)]; exact W4
        · rw [rd_k (by decide), W7, euv]
  intro m
  induction m with
  | zero =>
    intro i u v v2 w hi hsi hu huv T W6 W4 W7
    rw [rE_ge (by omega), vE_ge (by omega)]
    exact fin i u v v2 w (by omega) hsi hu huv T W6 W4 W7 (decide_eq_false (fun h => by omega))
  | succ m ih =>
    intro i u v v2 w hi hsi hu huv T W6 W4 W7
    have hin : i < n := by omega
    have hbi := ho.2 i hin
    cases hd : isDg (bt i) with
    | false =>
      rw [rE_f hin hd, vE_f hin hd]
      exact fin i u v v2 w (by omega) hsi hu huv T W6 W4 W7 (decide_eq_false (fun h => by have := of_decide_eq_false hd; exact this h.2))
    | true =>
      rw [rE_t hin hd, vE_t hin hd]
      have hr := of_decide_eq_true hd
      have b1 := m_byteAt (d := d) T ho (Nat.le_of_lt hin)
      rw [← W4] at b1
      have b2 := m_inB (d := d) (i := i) (lo := 48) (hi := 57) (w := w) ho (by decide) (by decide)
      rw [b2i_t (decide_eq_true ⟨hin, hr⟩)] at b2
      have e1 : bI bt n i = nI (bt i) := if_pos hin
      by_cases h99 : u ≤ 99
      · have b1' := b1
        rw [e1] at b1'
        have t := p_X9_advances_175FT_L175 (x1 := nI (bt s)) (v2 := v2) b1 b2 (by decide) (by rw [W7]; exact nI_le (b := 99) h99 (by decide)) b1'
        have e2 : (10 * (w.1 34 7)) + nI (bt i) - 48 = nI (u * 10 + (bt i - 48)) := by
          rw [W7, Int32.mul_comm]
          have k1 : nI u * 10 = nI (u * 10) := pk_mul u 10
          have k2 : nI (u * 10 + bt i) - nI 48 = nI (u * 10 + bt i - 48) := pk_sub (by omega)
          rw [k1, nI_add]
          refine k2.trans ?_
          rw [show u * 10 + bt i - 48 = u * 10 + (bt i - 48) by omega]
        rw [e2, W4, nI_1] at t
        have f1 : atf w (updI (updI w 34 7 (nI (u * 10 + (bt i - 48)))) 34 4 (nI (i + 1))) := (atf.up w _ (by omega)).trans (atf.up _ _ (by omega))
        obtain ⟨w2, g1, g2, g3⟩ := ih (i + 1) (u * 10 + (bt i - 48)) (min (v * 10 + (bt i - 48)) 100) .null _ (by omega) (by omega) (by omega) (by rw [show v = u by omega]) (T.atf f1) (by rw [rd_k (by decide), rd_k (by decide)]; exact W6) rd_e (by rw [rd_k (by decide), rd_e])
        exact ⟨w2, t.trans g1, f1.trans g2, g3⟩
      · have t := p_X9_advances_175FF_L175 (x1 := nI (bt s)) (v2 := v2) b1 b2 (by decide) (by rw [W7]; exact nI_ge (a := 99) (by omega) (by omega))
        rw [W4, nI_1, W7] at t
        have f1 : atf w (updI (updI w 34 7 (nI u)) 34 4 (nI (i + 1))) := (atf.up w _ (by omega)).trans (atf.up _ _ (by omega))
        obtain ⟨w2, g1, g2, g3⟩ := ih (i + 1) u (min (v * 10 + (bt i - 48)) 100) .null _ (by omega) (by omega) hu (by omega) (T.atf f1) (by rw [rd_k (by decide), rd_k (by decide)]; exact W6) rd_e (by rw [rd_k (by decide), rd_e])
        exact ⟨w2, t.trans g1, f1.trans g2, g3⟩
/-- the token that begins behind a place is read -/
def TKs (bt : Nat → Nat) (n i : Nat) (w : Wd) : Prop := w.1 34 6 = nI (tkS bt n i) ∧ w.1 34 4 = nI (tkE bt n i) ∧ w.1 34 5 = mtk (tkK bt n i) ∧ (tkK bt n i = 3 → w.1 34 7 = nI (tkV bt n i)) ∧ (4 ≤ tkK bt n i → w.1 34 7 = nI (tkK bt n i - 4))
theorem l_advances (ho : okt bt n) : ∀ (m i : Nat) (w : Wd), m + i = n → MT bt n w → w.1 34 4 = nI i →
    ∃ w2, runs (T_X9_advances (sem (d + 3))) (0, [.ref 34, .null, .null, .null], [], w) = some (none, w2) ∧ atf w w2 ∧ TKs bt n i w2 := by
  have h3 := ho.1
  intro m
  induction m with
  | zero =>
    intro i w hi T W4
    have b1 := m_byteAt (d := d + 2) T ho (i := i) (by omega)
    have e1 : bI bt n i = -1 := if_neg (by omega)
    have b1' := m_byteAt (d := d + 2) (T.atf (atf.up w (k := 6) (w.1 34 4) (by omega))) ho (i := i) (by omega)
    rw [e1, ← W4] at b1 b1'
    have s1 : tkS bt n i = i := rE_ge (by omega)
    have s2 : tkE bt n i = i := by unfold tkE tqE; rw [s1, if_pos (by omega)]
    have s3 : tkK bt n i = 1 := by unfold tkK tqK; rw [s1, if_pos (by omega)]
    unfold TKs
    rw [s1, s2, s3]
    refine ⟨_, p_X9_advances_0TF_R b1 (by decide) b1' (by decide), (atf.up w _ (by omega)).trans (atf.up _ _ (by omega)), ?_, ?_, rd_e, fun h => absurd h (by decide), fun h => absurd h (by decide)⟩
    · rw [rd_k (by decide), rd_e, W4]
    · rw [rd_k (by decide), rd_k (by decide), W4]
  | succ m ih =>
    intro i w hi T W4
    have hin : i < n := by omega
    have hbi := ho.2 i hin
    have e1 : bI bt n i = nI (bt i) := if_pos hin
    have b1 := m_byteAt (d := d + 2) T ho (i := i) (by omega)
    have f6 := atf.up w (k := 6) (w.1 34 4) (by omega)
    have T6 := T.atf f6
    have b1' := m_byteAt (d := d + 2) T6 ho (i := i) (by omega)
    rw [e1, ← W4] at b1 b1'
    by_cases hb : bt i = 32
    · have s1 : tkS bt n i = tkS bt n (i + 1) := rE_t hin (decide_eq_true hb)
      have s2 : tkE bt n i = tkE bt n (i + 1) := by unfold tkE; rw [s1]
      have s3 : tkK bt n i = tkK bt n (i + 1) := by unfold tkK; rw [s1]
      have s4 : tkV bt n i = tkV bt n (i + 1) := by unfold tkV; rw [s1]
      have t := p_X9_advances_0F_L0 b1 (by rw [hb]; rfl)
      rw [W4, nI_1] at t
      obtain ⟨w2, g1, g2, g3⟩ := ih (i + 1) _ (by omega) (T.atf (atf.up w (k := 4) (nI (i + 1)) (by omega))) rd_e
      refine ⟨w2, t.trans g1, (atf.up w _ (by omega)).trans g2, ?_⟩
      unfold TKs at g3 ⊢
      rw [s1, s2, s3, s4]
      exact g3
    · have s1 : tkS bt n i = i := rE_f hin (decide_eq_false hb)
      have s2 : tkE bt n i = tqE bt n i := by unfold tkE; rw [s1]
      have s3 : tkK bt n i = tqK bt n i := by unfold tkK; rw [s1]
      have s4 : tkV bt n i = vE bt n i 0 := by unfold tkV; rw [s1]
      unfold TKs
      rw [s1, s2, s3, s4]
      have k3 : ¬ nI (bt i) = 32 := fun h => hb ((nI_eq (b := 32) (by omega) (by decide)).mp h)
      have k4 : (0 : Int32) ≤ nI (bt i) := nI_pos' (by omega)
      have V6 : (updI w 34 6 (w.1 34 4)).1 34 6 = nI i := by rw [rd_e, W4]
      have V4 : (updI w 34 6 (w.1 34 4)).1 34 4 = nI i := by rw [rd_k (by decide), W4]
      have b2 := m_inB (d := d + 2) (i := i) (lo := 97) (hi := 122) (w := updI w 34 6 (w.1 34 4)) ho (by decide) (by decide)
      have b3 := m_inB (d := d + 2) (i := i) (lo := 48) (hi := 57) (w := updI w 34 6 (w.1 34 4)) ho (by decide) (by decide)
      rw [e1] at b2 b3
      cases hl : isLt (bt i) with
      | true =>
        have hlr := of_decide_eq_true hl
        have nd : ¬ isDg (bt i) = true := fun h => by have := of_decide_eq_true h; omega
        rw [b2i_t (decide_eq_true ⟨hin, hlr⟩)] at b2
        obtain ⟨w2, g1, g2, g3, g4, g5, g6⟩ := l_aword (d := d) (s := i) ho (n - i) i (.int (nI (bt i))) _ (by omega) (Nat.le_refl _) (fun j h1 h2 => by omega) T6 V6 V4
        rw [Nat.sub_self] at g1
        have e5 : tqE bt n i = rE isLt bt n i := by unfold tqE; rw [if_neg (by omega), if_neg nd, if_pos hl]
        have e6 : tqK bt n i = wdK (wl bt i (rE isLt bt n i)) := by unfold tqK; rw [if_neg (by omega), if_neg nd, if_pos hl]
        rw [e5, e6]
        refine ⟨w2, (p_X9_advances_0TTF_L68 b1 k3 b1' k4 b2 (by decide)).trans g1, f6.trans g2, g3, g4, g5, fun h => absurd h ?_, g6⟩
        unfold wdK
        repeat' split
        all_goals decide
      | false =>
        have hlr := of_decide_eq_false hl
        rw [b2i_f (decide_eq_false (fun h => hlr h.2))] at b2
        have nl2 : ¬ isLt (bt i) = true := by rw [hl]; decide
        cases hd : isDg (bt i) with
        | true =>
          have hdr := of_decide_eq_true hd
          rw [b2i_t (decide_eq_true ⟨hin, hdr⟩)] at b3
          have f7 := atf.up (updI w 34 6 (w.1 34 4)) (k := 7) 0 (by omega)
          obtain ⟨w2, g1, g2, g3, g4, g5, g6⟩ := l_anum (d := d + 2) (s := i) ho hin (n - i) i 0 0 .null _ (by omega) (Nat.le_refl _) (by decide) rfl (T6.atf f7) (by rw [rd_k (by decide)]; exact V6) (by rw [rd_k (by decide)]; exact V4) rd_e
          have e5 : tqE bt n i = rE isDg bt n i := by unfold tqE; rw [if_neg (by omega), if_pos hd]
          have e6 : tqK bt n i = dgK bt i (rE isDg bt n i) (vE bt n i 0) := by unfold tqK; rw [if_neg (by omega), if_pos hd]
          rw [e5, e6]
          refine ⟨w2, (p_X9_advances_0TTTF_L175 b1 k3 b1' k4 b2 rfl b3 (by decide)).trans g1, f6.trans (f7.trans g2), g3, g4, g5, g6, fun h => absurd h ?_⟩
          unfold dgK
          split <;> decide
        | false =>
          have hdr := of_decide_eq_false hd
          rw [b2i_f (decide_eq_false (fun h => hdr h.2))] at b3
          have nd : ¬ isDg (bt i) = true := by rw [hd]; decide
          have e5 : tqE bt n i = i + 1 := by unfold tqE; rw [if_neg (by omega), if_neg nd, if_neg nl2]
          rw [e5]
          by_cases h59 : bt i = 59
          · have e6 : tqK bt n i = 2 := by unfold tqK; rw [if_neg (by omega), if_neg nd, if_neg nl2, if_pos h59]
            rw [e6]
            refine ⟨_, p_X9_advances_0TTTTF_R b1 k3 b1' k4 b2 rfl b3 rfl (by rw [h59]; rfl), f6.trans ((atf.up _ _ (by omega)).trans (atf.up _ _ (by omega))), ?_, ?_, rd_e, fun h => absurd h (by decide), fun h => absurd h (by decide)⟩
            · rw [rd_k (by decide), rd_k (by decide)]; exact V6
            · rw [rd_k (by decide), rd_e, V4, nI_1]
          · have e6 : tqK bt n i = 0 := by unfold tqK; rw [if_neg (by omega), if_neg nd, if_neg nl2, if_neg h59]
            rw [e6]
            refine ⟨_, p_X9_advances_0TTTTT_R b1 k3 b1' k4 b2 rfl b3 rfl (fun h => h59 ((nI_eq (b := 59) (by omega) (by decide)).mp h)), f6.trans ((atf.up _ _ (by omega)).trans (atf.up _ _ (by omega))), ?_, ?_, rd_e, fun h => absurd h (by decide), fun h => absurd h (by decide)⟩
            · rw [rd_k (by decide), rd_k (by decide)]; exact V6
            · rw [rd_k (by decide), rd_e, V4, nI_1]
theorem m_advances {i : Nat} {w : Wd} (ho : okt bt n) (T : MT bt n w) (hi : i ≤ n) (W4 : w.1 34 4 = nI i) : ∃ w2, sem (d + 4) 143 [.ref 34] w = some (none, w2) ∧ atf w w2 ∧ TKs bt n i w2 := by
  obtain ⟨w2, g1, g2⟩ := l_advances (d := d) ho (n - i) i w (by omega) T W4
  exact ⟨w2, e_X9_advances.trans g1, g2⟩
end MTOK

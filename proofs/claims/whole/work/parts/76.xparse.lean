/-! the class's Reader: items -/
def XD (p : Nat) (S : PS) (w : Wd) : Prop :=
  w.1 1 6 = nI S.1 ∧ (S.1 ≠ 0 → w.1 1 8 = nI S.2.1.length ∧ ∀ i, i < S.2.1.length → w.1 3 (S.2.1.length - 1 - i) = nI (S.2.1.getD i 0)) ∧ w.1 1 9 = nI S.2.2.2 ∧ XS p S.2.2.1.1 w ∧ XF p S.2.2.1.2 w ∧ ∃ tv, tv < 1024 ∧ w.1 1 10 = nI tv ∧ ∀ j, 7 ≤ j → j ≤ 9 → (tv.testBit j = true ↔ ¬ S.2.2.1.1 6 j = 0)
/-- what reading may change -/
def rdf (p : Nat) (w w2 : Wd) : Prop := (∀ q, q ≠ 1 → q ≠ 3 → (q < p ∨ p + 7 ≤ q) → w2.1 q = w.1 q) ∧ w2.1 1 1 = w.1 1 1 ∧ w2.2 = w.2
theorem rdf.refl (p : Nat) (w : Wd) : rdf p w w := ⟨fun _ _ _ _ => rfl, rfl, rfl⟩
theorem rdf.trans {p : Nat} {w w2 w3 : Wd} (a : rdf p w w2) (b : rdf p w2 w3) : rdf p w w3 := ⟨fun q h1 h2 h3 => (b.1 q h1 h2 h3).trans (a.1 q h1 h2 h3), b.2.1.trans a.2.1, b.2.2.trans a.2.2⟩
theorem rdf.up {p : Nat} (w : Wd) {a k : Nat} (x : Int32) (h : (a = 1 ∧ k ≠ 1) ∨ a = 3 ∨ (p ≤ a ∧ a < p + 7)) (hp : scp p) : rdf p w (updI w a k x) := by
  have hpp : p = 20 ∨ p = 27 := hp
  refine ⟨fun q h1 h2 h3 => if_neg (by omega), ?_, rfl⟩
  rw [rdI]
  by_cases e : 1 = a
  · rw [if_pos e, if_neg (by omega)]
  · rw [if_neg e]
theorem tkf.rdf {p : Nat} {w w2 : Wd} (hp : scp p) (h : tkf w w2) : rdf p w w2 := ⟨fun q h1 _ _ => h.1 q h1, h.2.1 1 (by decide) (by decide) (by decide) (by decide), h.2.2⟩
theorem XT.rdf {p : Nat} {bt : Nat → Nat} {n : Nat} {w w2 : Wd} (X : XT bt n w) (hp : scp p) (h : rdf p w w2) : XT bt n w2 := by
  have hpp : p = 20 ∨ p = 27 := hp
  unfold XT at *
  rw [h.1 2 (by decide) (by decide) (by omega), h.2.1]
  exact X
theorem XS.same {p : Nat} {c : Nat → Nat → Nat} {w w2 : Wd} (h : ∀ q, p ≤ q → q < p + 7 → w2.1 q = w.1 q) (X : XS p c w) : XS p c w2 := by
  unfold XS at *
  rw [h p (by omega) (by omega), h (p + 1) (by omega) (by omega), h (p + 2) (by omega) (by omega), h (p + 3) (by omega) (by omega), h (p + 4) (by omega) (by omega), h (p + 6) (by omega) (by omega)]
  exact X
theorem XF.same {p : Nat} {fr : Nat → List Nat} {w w2 : Wd} (h : w2.1 (p + 5) = w.1 (p + 5)) (X : XF p fr w) : XF p fr w2 := by
  unfold XF at *
  rw [h]
  exact X
theorem XD.tkf {p : Nat} {S : PS} {w w2 : Wd} (hp : scp p) (X : XD p S w) (h : tkf w w2) : XD p S w2 := by
  have hpp : p = 20 ∨ p = 27 := hp
  obtain ⟨x1, x2, x3, x4, x5, x6⟩ := X
  refine ⟨?_, ?_, ?_, x4.same (fun q h1 h2 => h.1 q (by omega)), x5.same (h.1 _ (by omega)), ?_⟩
  · rw [h.2.1 6 (by decide) (by decide) (by decide) (by decide)]; exact x1
  · rw [h.2.1 8 (by decide) (by decide) (by decide) (by decide), h.1 3 (by decide)]; exact x2
  · rw [h.2.1 9 (by decide) (by decide) (by decide) (by decide)]; exact x3
  · rw [h.2.1 10 (by decide) (by decide) (by decide) (by decide)]; exact x6
section XPARSE
variable {d p : Nat} {S : PS} {w : Wd}
theorem x_spells {c : Nat → Nat → Nat} (hp : scp p) (X : XS p c w) : sem (d + 1) 53 [.ref p] w = some (some (.int (nI (c 0 0))), w) := by
  rw [← X.1]
  exact e_X5_spells.trans (p_X5_spells_0_R hp)
theorem x_pupils {c : Nat → Nat → Nat} (hp : scp p) (X : XS p c w) : sem (d + 1) 55 [.ref p] w = some (some (.int (nI (c 0 2))), w) := by
  rw [← X.2.2.1]
  exact e_X5_pupils.trans (p_X5_pupils_0_R hp)
theorem pow_i {a : Nat} (ha : a ≤ 5) : (1 : Int32) <<< (nI a &&& 31) = nI (2 ^ a) := i_pow (by omega)
theorem s_canBeNext {v : Nat} (hp : scp p) (X : XD p S w) (hc : okc S.2.2.1.1) (h9 : S.1 = 0 ∨ (4 ≤ S.1 ∧ S.1 ≤ 9)) (hl : S.2.1.length < 2 ^ 31) (hv : v < 2 ^ 31) (V : w.1 1 5 = nI v) : sem (d + 2) 28 [.ref 1, .ref p] w = some (some (.int (b2i (canNx S.2.2.1.1 S.1 S.2.1 v))), w) := by
  obtain ⟨x1, x2, x3, x4, x5, x6⟩ := X
  obtain ⟨k, ns, ⟨c, fr⟩, it⟩ := S
  have h5 := hc.1
  dsimp only at *
  refine e_X3_canBeNext.trans ?_
  have neq : ∀ j, j < 10 → k < 10 → k ≠ j → ¬ (w.1 1 6) = nI j := fun j hj hk hne h => hne ((nI_eq (by omega) (by omega)).mp (x1.symm.trans h))
  rcases h9 with h0 | h9
  · have e : canNx c k ns v = false := by rw [h0]; rfl
    rw [b2i_f e]
    exact p_X3_canBeNext_0Sd_R hp (neq 4 (by omega) (by omega) (by omega)) (neq 5 (by omega) (by omega) (by omega)) (neq 6 (by omega) (by omega) (by omega)) (neq 7 (by omega) (by omega) (by omega)) (neq 8 (by omega) (by omega) (by omega)) (neq 9 (by omega) (by omega) (by omega))
  · obtain ⟨y1, y2⟩ := x2 (by omega)
    unfold canNx
    rcases (by omega : k = 4 ∨ k = 5 ∨ k = 6 ∨ k = 7 ∨ k = 8 ∨ k = 9) with rfl | rfl | rfl | rfl | rfl | rfl
    · rw [if_pos rfl]
      by_cases q1 : ns.length < 4
      · have g1 : ¬ 4 ≤ (w.1 1 8) := by rw [y1]; exact nI_ge (b := 4) q1 (by decide)
        by_cases q2 : ns.length = 1
        · have g2 : (w.1 1 8) = 1 := by rw [y1, q2]; rfl
          rw [if_pos q2]
          by_cases q3 : v ≤ 1
          · rw [b2i_t (decide_eq_true ⟨q1, q3⟩)]
            exact p_X3_canBeNext_0S4FFF_R hp x1 g1 g2 (by rw [V]; exact nI_nlt (a := 1) (b := v) q3 (by decide))
          · rw [b2i_f (decide_eq_false (fun h => q3 h.2))]
            exact p_X3_canBeNext_0S4FFT_R hp x1 g1 g2 (by rw [V]; exact nI_lt (a := 1) (by omega) hv)
        · have g2 : ¬ (w.1 1 8) = 1 := by rw [y1]; exact fun h => q2 ((nI_eq (b := 1) hl (by decide)).mp h)
          rw [if_neg q2]
          by_cases q3 : v ≤ 9
          · rw [b2i_t (decide_eq_true ⟨q1, q3⟩)]
            exact p_X3_canBeNext_0S4FTF_R hp x1 g1 g2 (by rw [V]; exact nI_nlt (a := 9) (b := v) q3 (by decide))
          · rw [b2i_f (decide_eq_false (fun h => q3 h.2))]
            exact p_X3_canBeNext_0S4FTT_R hp x1 g1 g2 (by rw [V]; exact nI_lt (a := 9) (by omega) hv)
      · rw [b2i_f (decide_eq_false (fun h => q1 h.1))]
        exact p_X3_canBeNext_0S4T_R hp x1 (by rw [y1]; exact nI_le (a := 4) (by omega) hl)
    · rw [if_neg (by decide), if_pos rfl]
      by_cases q1 : ns.length < 5
      · have g1 : ¬ 5 ≤ (w.1 1 8) := by rw [y1]; exact nI_ge (b := 5) q1 (by decide)
        have e1 := s_isSpell (d := d) (p := p) (n := c 0 0) (s := w.1 1 5) (w := w) hp x4.1 h5
        by_cases q2 : v < c 0 0
        · rw [b2i_t (decide_eq_true ⟨q1, q2⟩)]
          rw [if_pos ⟨by rw [V]; exact nI_pos hv, by rw [V]; exact nI_lt q2 (by omega)⟩] at e1
          exact p_X3_canBeNext_0S5FF_R hp x1 g1 e1 (by decide)
        · rw [b2i_f (decide_eq_false (fun h => q2 h.2))]
          rw [if_neg (fun h => by rw [V] at h; exact nI_nlt (by omega) hv h.2)] at e1
          exact p_X3_canBeNext_0S5FT_R hp x1 g1 e1 rfl
      · rw [b2i_f (decide_eq_false (fun h => q1 h.1))]
        exact p_X3_canBeNext_0S5T_R hp x1 (by rw [y1]; exact nI_le (a := 5) (by omega) hl)
    · rw [if_neg (by decide), if_neg (by decide), if_pos rfl]
      have h32 := two32 hc
      by_cases q1 : ns.length < 1
      · have g1 : ¬ 1 ≤ (w.1 1 8) := by rw [y1]; exact nI_ge (b := 1) q1 (by decide)
        have e1 := x_spells (d := d + 1) (p := p) (w := w) hp x4
        by_cases q2 : v < 2 ^ c 0 0
        · rw [b2i_t (decide_eq_true ⟨q1, q2⟩)]
          exact p_X3_canBeNext_0S6FF_R hp x1 g1 e1 (by rw [pow_i h5, V]; exact nI_ge q2 (by omega))
        · rw [b2i_f (decide_eq_false (fun h => q2 h.2))]
          exact p_X3_canBeNext_0S6FT_R hp x1 g1 e1 (by rw [pow_i h5, V]; exact nI_le (by omega) hv)
      · rw [b2i_f (decide_eq_false (fun h => q1 h.1))]
        exact p_X3_canBeNext_0S6T_R hp x1 (by rw [y1]; exact nI_le (a := 1) (by omega) hl)
    · rw [if_neg (by decide), if_neg (by decide), if_neg (by decide), if_pos (Or.inl rfl)]
      by_cases q1 : ns.length < 1
      · have g1 : ¬ 1 ≤ (w.1 1 8) := by rw [y1]; exact nI_ge (b := 1) q1 (by decide)
        by_cases q3 : v ≤ 9
        · rw [b2i_t (decide_eq_true ⟨q1, q3⟩)]
          exact p_X3_canBeNext_0S7FF_R hp x1 g1 (by rw [V]; exact nI_nlt (a := 9) (b := v) q3 (by decide))
        · rw [b2i_f (decide_eq_false (fun h => q3 h.2))]
          exact p_X3_canBeNext_0S7FT_R hp x1 g1 (by rw [V]; exact nI_lt (a := 9) (by omega) hv)
      · rw [b2i_f (decide_eq_false (fun h => q1 h.1))]
        exact p_X3_canBeNext_0S7T_R hp x1 (by rw [y1]; exact nI_le (a := 1) (by omega) hl)
    · rw [if_neg (by decide), if_neg (by decide), if_neg (by decide), if_pos (Or.inr rfl)]
      by_cases q1 : ns.length < 1
      · have g1 : ¬ 1 ≤ (w.1 1 8) := by rw [y1]; exact nI_ge (b := 1) q1 (by decide)
        by_cases q3 : v ≤ 9
        · rw [b2i_t (decide_eq_true ⟨q1, q3⟩)]
          exact p_X3_canBeNext_0S8FF_R hp x1 g1 (by rw [V]; exact nI_nlt (a := 9) (b := v) q3 (by decide))
        · rw [b2i_f (decide_eq_false (fun h => q3 h.2))]
          exact p_X3_canBeNext_0S8FT_R hp x1 g1 (by rw [V]; exact nI_lt (a := 9) (by omega) hv)
      · rw [b2i_f (decide_eq_false (fun h => q1 h.1))]
        exact p_X3_canBeNext_0S8T_R hp x1 (by rw [y1]; exact nI_le (a := 1) (by omega) hl)
    · rw [if_neg (by decide), if_neg (by decide), if_neg (by decide), if_neg (by decide), if_pos rfl]
      by_cases q1 : ns.length < 1
      · have g1 : ¬ 1 ≤ (w.1 1 8) := by rw [y1]; exact nI_ge (b := 1) q1 (by decide)
        by_cases q2 : 1 ≤ v
        · have g2 : ¬ (w.1 1 5) < 1 := by rw [V]; exact nI_nlt (a := v) (b := 1) q2 hv
          by_cases q3 : v ≤ 5
          · rw [b2i_t (decide_eq_true ⟨q1, q2, q3⟩)]
            exact p_X3_canBeNext_0S9FFF_R hp x1 g1 g2 (by rw [V]; exact nI_nlt (a := 5) (b := v) q3 (by decide))
          · rw [b2i_f (decide_eq_false (fun h => q3 h.2.2))]
            exact p_X3_canBeNext_0S9FFT_R hp x1 g1 g2 (by rw [V]; exact nI_lt (a := 5) (by omega) hv)
        · rw [b2i_f (decide_eq_false (fun h => q2 h.2.1))]
          exact p_X3_canBeNext_0S9FT_R hp x1 g1 (by rw [V]; exact nI_lt (a := v) (b := 1) (by omega) (by decide))
      · rw [b2i_f (decide_eq_false (fun h => q1 h.1))]
        exact p_X3_canBeNext_0S9T_R hp x1 (by rw [y1]; exact nI_le (a := 1) (by omega) hl)
theorem s_hasPlace {k : Nat} (hp : scp p) (X : XD p S w) (hc : okc S.2.2.1.1) (hk : 4 ≤ k ∧ k ≤ 9) (K : w.1 1 3 = nI k) : sem (d + 2) 26 [.ref 1, .ref p] w = some (some (.int (b2i (canOp S.2.2.1.1 k))), w) := by
  obtain ⟨x1, x2, x3, x4, x5, tv, x6, x7, x8⟩ := X
  obtain ⟨k0, ns, ⟨c, fr⟩, it⟩ := S
  obtain ⟨h5, h4, h3, _⟩ := hc
  dsimp only at *
  refine e_X3_hasPlaceForItem.trans ?_
  have neq : ∀ j, j < 10 → k ≠ j → ¬ (w.1 1 3) = nI j := fun j hj hne h => hne ((nI_eq (by omega) (by omega)).mp (K.symm.trans h))
  unfold canOp
  rcases (by omega : k = 4 ∨ k = 5 ∨ k = 6 ∨ 7 ≤ k) with rfl | rfl | rfl | h7
  · rw [if_pos rfl]
    have e1 := x_spells (d := d + 1) (p := p) (w := w) hp x4
    by_cases q : c 0 0 < 5
    · rw [b2i_t (decide_eq_true q)]
      exact p_X3_hasPlaceForItem_0S4F_R hp K e1 (nI_ge (b := 5) q (by decide))
    · rw [b2i_f (decide_eq_false q)]
      exact p_X3_hasPlaceForItem_0S4T_R hp K e1 (nI_le (a := 5) (by omega) (by omega))
  · rw [if_neg (by decide), if_pos rfl]
    have e1 := s_things (d := d + 1) (p := p) (w := w) hp x4
    by_cases q : c 0 1 < 4
    · rw [b2i_t (decide_eq_true q)]
      exact p_X3_hasPlaceForItem_0S5F_R hp K e1 (nI_ge (b := 4) q (by decide))
    · rw [b2i_f (decide_eq_false q)]
      exact p_X3_hasPlaceForItem_0S5T_R hp K e1 (nI_le (a := 4) (by omega) (by omega))
  · rw [if_neg (by decide), if_neg (by decide), if_pos rfl]
    have e1 := x_pupils (d := d + 1) (p := p) (w := w) hp x4
    by_cases q : c 0 2 < 3
    · rw [b2i_t (decide_eq_true q)]
      exact p_X3_hasPlaceForItem_0S6F_R hp K e1 (nI_ge (b := 3) q (by decide))
    · rw [b2i_f (decide_eq_false q)]
      exact p_X3_hasPlaceForItem_0S6T_R hp K e1 (nI_le (a := 3) (by omega) (by omega))
  · rw [if_neg (by omega), if_neg (by omega), if_neg (by omega)]
    have n4 := neq 4 (by omega) (by omega)
    have n5 := neq 5 (by omega) (by omega)
    have n6 := neq 6 (by omega) (by omega)
    have e8 := x8 k h7 hk.2
    by_cases q : c 6 k = 0
    · rw [b2i_t (decide_eq_true q)]
      have e9 : tv.testBit k = false := by
        cases ht : tv.testBit k with
        | false => rfl
        | true => exact absurd q (e8.mp ht)
      exact p_X3_hasPlaceForItem_0SdF_R hp n4 n5 n6 (by rw [x7, K]; exact (i_bit0 (by omega) (by omega)).mpr e9)
    · rw [b2i_f (decide_eq_false q)]
      have e9 := e8.mpr q
      exact p_X3_hasPlaceForItem_0SdT_R hp n4 n5 n6 (by rw [x7, K]; exact fun h => by rw [(i_bit0 (by omega) (by omega)).mp h] at e9; exact absurd e9 (by decide))
theorem l_gathered {ns : List Nat} (h5 : ns.length ≤ 5) (M : w.1 1 8 = nI ns.length) (N : ∀ i, i < ns.length → w.1 3 (ns.length - 1 - i) = nI (ns.getD i 0)) : ∀ (m k : Nat), m + k = ns.length → runs (T_X3_gatheredRow (sem (d + 1))) (4, [.ref 1, .int (nI (cx (ns.drop m))), .int (nI k)], [], w) = some (some (.int (nI (cx ns))), w) := by
  intro m
  induction m with
  | zero =>
    intro k hk
    exact p_X3_gatheredRow_4T_R (by rw [M]; exact nI_le (by omega) (by omega))
  | succ m ih =>
    intro k hk
    have e1 := s_at (d := d) (a := 3) (k := k) (w := w) rfl (by show k < 5; omega)
    have e2 := N m (by omega)
    rw [show ns.length - 1 - m = k by omega] at e2
    rw [e2] at e1
    refine (p_X3_gatheredRow_4F_L4 (by rw [M]; exact nI_ge (by omega) (by omega)) e1 (s_with (c := cx (ns.drop (m + 1))) (s := ns.getD m 0))).trans ?_
    have e3 : cx (ns.drop m) = 5 * cx (ns.drop (m + 1)) + ns.getD m 0 + 1 := by
      rw [List.drop_eq_getElem_cons (by omega), List.getD_eq_getElem?_getD, List.getElem?_eq_getElem (by omega)]
      rfl
    rw [← e3, nI_1]
    exact ih (k + 1) (by omega)
theorem s_gathered {ns : List Nat} (h5 : ns.length ≤ 5) (M : w.1 1 8 = nI ns.length) (N : ∀ i, i < ns.length → w.1 3 (ns.length - 1 - i) = nI (ns.getD i 0)) : sem (d + 2) 31 [.ref 1] w = some (some (.int (nI (cx ns))), w) := by
  have := l_gathered (d := d) h5 M N ns.length 0 (by omega)
  rw [List.drop_length] at this
  exact e_X3_gatheredRow.trans (p_X3_gatheredRow_0_L4.trans this)
end XPARSE

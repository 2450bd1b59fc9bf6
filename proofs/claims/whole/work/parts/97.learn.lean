/-! learn agrees -/
theorem sub_pop : ∀ V : Nat, V < 32 → ∀ U : Nat, U < 32 → V ||| U = U → pop V < pop U ∨ V = U := by decide +kernel
theorem rset_bit : ∀ {r : List Nat} {s : Nat}, (rset r).testBit s = true ↔ s ∈ r := by
  intro r
  induction r with
  | nil => intro s; constructor
           · intro h
             have : (0 : Nat).testBit s = true := h
             rw [Nat.zero_testBit] at this
             exact absurd this (by decide)
           · intro h; exact absurd h List.not_mem_nil
  | cons a r ih =>
    intro s
    have e : (rset (a :: r)).testBit s = ((2 ^ a).testBit s || (rset r).testBit s) := Nat.testBit_or ..
    rw [e, Nat.testBit_two_pow, Bool.or_eq_true, ih, decide_eq_true_iff, List.mem_cons]
    exact ⟨fun h => h.elim (fun h => Or.inl h.symm) Or.inr, fun h => h.elim (fun h => Or.inl h.symm) Or.inr⟩
section LEARN
variable {p : Nat} {c : Nat → Nat → Nat} {rs : Nat → List Nat} {sp : Nat} {us : List (Nat × List Nat × Nat)} {im : Nat → Option ((Nat → List Nat) × Nat)} {ht : List (Nat × Nat)} {bt : Nat → Nat} {n : Nat} {tr : Int64} {w w2 : Wd}
theorem mem_gls {V g : Nat} : ∀ {n s : Nat}, s < n → V.testBit s = true → c 2 s = g → s ∈ gls c V g n := by
  intro n
  induction n with
  | zero => intro s h; exact absurd h (Nat.not_lt_zero _)
  | succ n ih =>
    intro s h h1 h2
    unfold gls
    by_cases e : s = n
    · subst e
      rw [if_pos ⟨h1, h2⟩]
      exact List.mem_cons_self
    · split
      · exact List.mem_cons_of_mem _ (ih (by omega) h1 h2)
      · exact ih (by omega) h1 h2
/-- the row of a set -/
theorem set_row {V e : Nat} (hc : okc c) (hV : V < 2 ^ c 0 0) (h : few0 c e V = true) : ∃ r, okr (c 0 0) r ∧ wk c r = e ∧ rset r = V := by
  have h5 := hc.1
  refine ⟨gls c V 1 (c 0 0) ++ (gls c V 0 (c 0 0) ++ []), ⟨?_, ?_⟩, gls_wob hc (of_decide_eq_true h), ?_⟩
  · have cnt := (gls_cnt hc (V := V) (c 0 0) (Nat.le_refl _)).2
    have hp := popN_le V (10 - c 0 0) (c 0 0)
    rw [show c 0 0 + (10 - c 0 0) = 10 by omega] at hp
    have hb : popN V 10 ≤ c 0 0 := pop_bits _ h5 V hV
    rw [List.length_append, List.length_append]
    simp only [List.length_nil]
    omega
  · intro s hs
    rw [List.append_nil] at hs
    rcases List.mem_append.mp hs with hs | hs
    · exact (gls_mem hs).1
    · exact (gls_mem hs).1
  · refine Nat.eq_of_testBit_eq (fun s => ?_)
    have k : (rset (gls c V 1 (c 0 0) ++ (gls c V 0 (c 0 0) ++ []))).testBit s = true ↔ V.testBit s = true := by
      rw [rset_bit, List.append_nil, List.mem_append]
      constructor
      · intro h
        rcases h with h | h
        · exact (gls_mem h).2.1
        · exact (gls_mem h).2.1
      · intro h
        have hs : s < c 0 0 := by
          rcases Nat.lt_or_ge s (c 0 0) with g | g
          · exact g
          · rw [Nat.testBit_lt_two_pow (Nat.lt_of_lt_of_le hV (Nat.pow_le_pow_right (by decide) g))] at h
            exact absurd h (by decide)
        have hg := (hc.2.2.2.2.2.2.1 s hs).2.1
        rcases (by omega : c 2 s = 0 ∨ c 2 s = 1) with g | g
        · exact Or.inr (mem_gls hs h g)
        · exact Or.inl (mem_gls hs h g)
    cases h1 : V.testBit s with
    | true => exact k.mpr h1
    | false =>
      rw [h1] at k
      cases h2 : (rset (gls c V 1 (c 0 0) ++ (gls c V 0 (c 0 0) ++ []))).testBit s with
      | true => exact absurd (k.mp h2) (by decide)
      | false => rfl
theorem row_set {r : List Nat} {e : Nat} (hc : okc c) (hr : okr (c 0 0) r) (h : wk c r = e) : rset r < 32 ∧ ∃ V, V < 2 ^ c 0 0 ∧ few0 c e V = true ∧ (pop V < pop (rset r) ∨ V = rset r) := by
  have h5 := hc.1
  have h32 := two32 hc
  have hs : rset r < 32 := rset_lt (hr.five hc).2
  obtain ⟨V, v1, v2, v3, v4⟩ := vis_set hc hs (B := []) r hr.2 (fun s h => rset_bit.mpr h)
  refine ⟨hs, V, v1, decide_eq_true ?_, sub_pop V (by omega) _ hs v2⟩
  rw [List.append_nil] at v4
  unfold wob
  rcases v4 with ⟨a, b⟩ | ⟨a, b⟩
  · rw [if_neg (by omega), if_pos a, b, h]
  · rw [if_neg (by omega), if_neg (by omega), b, h]
/-- the best set of the rows so far -/
def lsR (c : Nat → Nat → Nat) (e k : Nat) (x : Int32) : Prop :=
  (∃ r, okr (c 0 0) r ∧ wk c r = e ∧ x = nI (rset r) ∧ ∀ r2, okr (c 0 0) r2 → cm r2 < k → wk c r2 = e → pop (rset r) < pop (rset r2) ∨ (pop (rset r) = pop (rset r2) ∧ rset r ≤ rset r2)) ∨ ((∀ r, okr (c 0 0) r → cm r < k → wk c r ≠ e) ∧ x = -9)
theorem lsR.lst {e : Nat} {x : Int32} (hc : okc c) (h : lsR c e 7776 x) : isLst (few0 c e) (2 ^ c 0 0) x := by
  rcases h with ⟨r, a1, a2, a3, a4⟩ | ⟨a1, a2⟩
  · obtain ⟨b1, V, b2, b3, b4⟩ := row_set hc a1 a2
    have m : ∀ V2, V2 < 2 ^ c 0 0 → few0 c e V2 = true → pop (rset r) < pop V2 ∨ (pop (rset r) = pop V2 ∧ rset r ≤ V2) := by
      intro V2 h1 h2
      obtain ⟨r2, g1, g2, g3⟩ := set_row hc h1 h2
      have := a4 r2 g1 (cm_lt (g1.five hc)) g2
      rw [g3] at this
      exact this
    have e1 : V = rset r := by
      rcases b4 with b4 | b4
      · have := m V b2 b3; omega
      · exact b4
    rw [e1] at b2 b3
    exact Or.inl ⟨rset r, b2, b3, a3, m⟩
  · refine Or.inr ⟨fun V hV => ?_, a2⟩
    cases hw : few0 c e V with
    | false => rfl
    | true =>
      obtain ⟨r2, g1, g2, g3⟩ := set_row hc hV hw
      exact absurd g2 (a1 r2 g1 (cm_lt (g1.five hc)))
theorem l_mlearn {e q : Nat} (hc : okc c) (he : e < 1024) (hq : q < 2) (M : MS c w) (MV0 : MV c w) : ∀ (m k : Nat) (x : Int32) (v5 v6 : Value), m + k = 7776 → lsR c e k x →
    ∃ y v, lsR c e 7776 y ∧ runs (T_X9_learn (sem 39)) (33, [.ref 34, .int (nI e), .int (nI q), .int x, .int (nI k), v5, v6], [], w) = some (some (.int v), w) ∧ (y = -9 → v = -9) ∧ (∀ V, V < 32 → y = nI V → v = if q = 0 then nI (pop V) else nI V) := by
  have n9 : ∀ V, V < 32 → ¬ nI V = -9 := fun V hV h => by
    have := nI_pos (n := V) (by omega)
    rw [h] at this
    exact this (by decide)
  intro m
  induction m with
  | zero =>
    intro k x v5 v6 hk L
    have ek : k = 7776 := by omega
    subst ek
    have g1 : (7776 : Int32) ≤ nI 7776 := nI_le (Nat.le_refl _) (by decide)
    rcases id L with ⟨r, a1, a2, a3, a4⟩ | ⟨a1, a2⟩
    · have h32 : rset r < 32 := rset_lt (a1.five hc).2
      subst a3
      rcases (by omega : q = 0 ∨ q = 1) with rfl | rfl
      · refine ⟨_, _, L, p_X9_learn_33TFT_R g1 (n9 _ h32) (by decide) (m_ones (d := 38) (by omega)), fun h => absurd h (n9 _ h32), fun V hV h => ?_⟩
        rw [if_pos rfl, (nI_eq (by omega) (by omega)).mp h]
      · refine ⟨_, _, L, p_X9_learn_33TFF_R g1 (n9 _ h32) rfl, fun h => absurd h (n9 _ h32), fun V hV h => ?_⟩
        rw [if_neg (by decide), h]
    · subst a2
      exact ⟨_, _, L, p_X9_learn_33TT_R g1 rfl, fun _ => rfl, fun V hV h => absurd h.symm (n9 V hV)⟩
  | succ m ih =>
    intro k x v5 v6 hk L
    have g1 : ¬ (7776 : Int32) ≤ nI k := nI_ge (b := 7776) (by omega) (by decide)
    have hv : vp_in (nI k) 7776 := vp_in_nI (by omega) (by decide)
    -- what comes next
    have nxt : ∀ (y : Int32), lsR c e (k + 1) y → runs (T_X9_learn (sem 39)) (33, [.ref 34, .int (nI e), .int (nI q), .int x, .int (nI k), v5, v6], [], w) = runs (T_X9_learn (sem 39)) (33, [.ref 34, .int (nI e), .int (nI q), .int y, .int (nI k + 1), .null, .null], [], w) →
        ∃ y v, lsR c e 7776 y ∧ runs (T_X9_learn (sem 39)) (33, [.ref 34, .int (nI e), .int (nI q), .int x, .int (nI k), v5, v6], [], w) = some (some (.int v), w) ∧ (y = -9 → v = -9) ∧ (∀ V, V < 32 → y = nI V → v = if q = 0 then nI (pop V) else nI V) := by
      intro y L2 e0
      obtain ⟨z, v, q1, q2, q3⟩ := ih (k + 1) y .null .null (by omega) L2
      rw [nI_1] at e0
      exact ⟨z, v, q1, e0.trans q2, q3⟩
    -- a row that isn't one of these changes nothing
    have same : (∀ r, okr (c 0 0) r → cm r = k → wk c r = e → (∃ r0, okr (c 0 0) r0 ∧ wk c r0 = e ∧ x = nI (rset r0)) ∧ ∀ r0, okr (c 0 0) r0 → wk c r0 = e → x = nI (rset r0) → pop (rset r0) < pop (rset r) ∨ (pop (rset r0) = pop (rset r) ∧ rset r0 ≤ rset r)) → lsR c e (k + 1) x := by
      intro hno
      rcases L with ⟨r, a1, a2, a3, a4⟩ | ⟨a1, a2⟩
      · refine Or.inl ⟨r, a1, a2, a3, fun r2 b1 b2 b3 => ?_⟩
        by_cases ek : cm r2 = k
        · exact (hno r2 b1 ek b3).2 r a1 a2 a3
        · exact a4 r2 b1 (by omega) b3
      · refine Or.inr ⟨fun r b1 b2 b3 => ?_, a2⟩
        by_cases ek : cm r = k
        · obtain ⟨⟨r0, c1, c2, c3⟩, _⟩ := hno r b1 ek b3
          exact n9 _ (rset_lt (c1.five hc).2) (c3.symm.trans a2)
        · exact a1 r b1 (by omega) b3
    rcases MV0 k (by omega) with ⟨z0, z1⟩ | ⟨z0, r, r1, r2⟩
    · exact nxt x (same (fun r b1 b2 _ => absurd b2 (z1 r b1))) (p_X9_learn_33FT_L33 g1 hv (by rw [nI_clamp (by omega)]; exact z0))
    · subst r2
      have only : ∀ u, okr (c 0 0) u → cm u = cm r → u = r := fun u b1 b2 => cm_inj (b1.five hc).2 (r1.five hc).2 b2
      have h3 : ¬ (w.1 47 (nI (cm r)).toNatClampNeg) = 0 := by rw [nI_clamp (by omega)]; exact z0
      have e4 := m_worksOf (d := 38) M hc r1
      by_cases hw : wk c r = e
      · have e6 := m_spellsIn (d := 38) (w := w) (r1.five hc)
        have hr32 : rset r < 32 := rset_lt (r1.five hc).2
        have o2 := m_ones (d := 38) (V := rset r) (w := w) (by omega)
        have pr := pop_le (rset r) (by omega)
        rcases id L with ⟨b, a1, a2, a3, a4⟩ | ⟨a1, a2⟩
        · subst a3
          have hb32 : rset b < 32 := rset_lt (a1.five hc).2
          have o3 := m_ones (d := 38) (V := rset b) (w := w) (by omega)
          have pb := pop_le (rset b) (by omega)
          have upd : (pop (rset r) < pop (rset b) ∨ (pop (rset r) = pop (rset b) ∧ rset r < rset b)) → lsR c e (cm r + 1) (nI (rset r)) := by
            intro hlt
            refine Or.inl ⟨r, r1, hw, rfl, fun u b1 b2 b3 => ?_⟩
            by_cases ek : cm u = cm r
            · rw [only u b1 ek]; exact Or.inr ⟨rfl, Nat.le_refl _⟩
            · have := a4 u b1 (by omega) b3
              omega
          have stay : (pop (rset b) < pop (rset r) ∨ (pop (rset b) = pop (rset r) ∧ rset b ≤ rset r)) → lsR c e (cm r + 1) (nI (rset b)) := by
            intro hge
            refine same (fun u b1 b2 b3 => ⟨⟨b, a1, a2, rfl⟩, fun r0 c1 c2 c3 => ?_⟩)
            rw [only u b1 b2, ← (nI_eq (by omega) (by have := rset_lt (c1.five hc).2; omega)).mp c3]
            exact hge
          by_cases k1 : pop (rset r) < pop (rset b)
          · exact nxt _ (upd (Or.inl k1)) (p_X9_learn_33FFFFTF_L33 g1 hv h3 e4 (by rw [hw]) e6 (n9 _ hb32) o2 o3 (nI_lt k1 (by omega)) (by decide))
          · have k1' : ¬ nI (pop (rset r)) < nI (pop (rset b)) := nI_nlt (by omega) (by omega)
            by_cases k2 : pop (rset r) = pop (rset b)
            · by_cases k3 : rset b ≤ rset r
              · exact nxt _ (stay (Or.inr ⟨k2.symm, k3⟩)) (p_X9_learn_33FFFFFFTT_L33 g1 hv h3 e4 (by rw [hw]) e6 (n9 _ hb32) o2 o3 k1' o2 o3 (by rw [k2]) (nI_le k3 (by omega)) rfl)
              · exact nxt _ (upd (Or.inr ⟨k2, by omega⟩)) (p_X9_learn_33FFFFFFFF_L33 g1 hv h3 e4 (by rw [hw]) e6 (n9 _ hb32) o2 o3 k1' o2 o3 (by rw [k2]) (nI_ge (by omega) (by omega)) (by decide))
            · exact nxt _ (stay (Or.inl (by omega))) (p_X9_learn_33FFFFFTT_L33 g1 hv h3 e4 (by rw [hw]) e6 (n9 _ hb32) o2 o3 k1' o2 o3 (fun h => k2 ((nI_eq (by omega) (by omega)).mp h)) rfl)
        · subst a2
          refine nxt _ (Or.inl ⟨r, r1, hw, rfl, fun u b1 b2 b3 => ?_⟩) (p_X9_learn_33FFFTF_L33 g1 hv h3 e4 (by rw [hw]) e6 rfl (by decide))
          by_cases ek : cm u = cm r
          · rw [only u b1 ek]; exact Or.inr ⟨rfl, Nat.le_refl _⟩
          · exact absurd b3 (a1 u b1 (by omega))
      · have hl := wk_lt hc r1.2
        exact nxt x (same (fun u b1 b2 b3 => by rw [only u b1 b2] at b3; exact absurd b3 hw)) (p_X9_learn_33FFT_L33 g1 hv h3 e4 (fun h => hw ((nI_eq (by omega) (by omega)).mp h)))
theorem agr_learn {x1 x2 : Int32} (J : Jn w) : agr 117 179 [.ref 0, .int x1, .int x2] [.ref 34, .int x1, .int x2] w := by
  obtain ⟨p, c, rs, sp, us, im, ht, bt, n, tr, hp, ok, X, M⟩ := J
  have hc := ok.1
  have h5 := hc.1
  have h32 := two32 hc
  have X1 := X.1
  have x5 := X.2.2.2.2.2.1
  rcases in_cs (x := x1) (N := 1024) (by decide) with ⟨e, he, rfl⟩ | h1
  · have a1 := x_eff1 (w := w) (d := 38) he
    have b1 := fun w' => m_inL1 (w := updI w' 34 0 0) (d := 38) (N := 1024) (hi := 1023) (by decide) (by decide) he
    rcases in_cs (x := x2) (N := 2) (by decide) with ⟨q, hq, rfl⟩ | h2
    · have a2 := x_yn1 (w := w) (d := 38) hq
      have b2 := fun w' => m_inL1 (w := updI w' 34 0 0) (d := 38) (N := 2) (hi := 1) (by decide) (by decide) hq
      obtain ⟨x, f1, f2⟩ := s_fewestFor (w := w) (d := 34) (e := e) hp X1 hc he
      -- the class's answer
      have hx : ∃ v, sem 40 117 [.ref 0, .int (nI e), .int (nI q)] w = some (some (.int v), w) ∧ ((∃ V, V < 2 ^ c 0 0 ∧ isLst (few0 c e) (2 ^ c 0 0) (nI V) ∧ v = if q = 0 then nI (pop V) else nI V) ∨ (isLst (few0 c e) (2 ^ c 0 0) (-9) ∧ v = -9)) := by
        rcases f1 with ⟨V, k1, k2, k3, k4⟩ | ⟨k1, k2⟩
        · subst k3
          have g7 : (0 : Int32) ≤ nI V := nI_le (a := 0) (Nat.zero_le _) (by omega)
          rcases (by omega : q = 0 ∨ q = 1) with rfl | rfl
          · exact ⟨_, e_X8_learn.trans (p_X8_learn_0FTTF_R hp a1 (by decide) a2 (by decide) x5 f2 g7 rfl (s_bitCount (d := 38) (n := V) (by omega))), Or.inl ⟨V, k1, Or.inl ⟨V, k1, k2, rfl, k4⟩, by rw [if_pos rfl]⟩⟩
          · exact ⟨_, e_X8_learn.trans (p_X8_learn_0FTTT_R hp a1 (by decide) a2 (by decide) x5 f2 g7 (by decide)), Or.inl ⟨V, k1, Or.inl ⟨V, k1, k2, rfl, k4⟩, by rw [if_neg (by decide)]⟩⟩
        · subst k2
          exact ⟨_, e_X8_learn.trans (p_X8_learn_0FTF_R hp a1 (by decide) a2 (by decide) x5 f2 (by decide)), Or.inr ⟨Or.inr ⟨k1, rfl⟩, rfl⟩⟩
      obtain ⟨v, x1, x2⟩ := hx
      refine agr_q hp ok X M x1 (xch.refl w) (fun w' M' => ?_)
      obtain ⟨y, v2, c1, c2, c3, c4⟩ := l_mlearn (w := updI w' 34 0 0) (e := e) (q := q) hc he hq M'.thr.1 M'.thr.2.2.2.2.2.2.2.2.1 7776 0 (-9) .null .null (by omega) (Or.inr ⟨fun r _ h => absurd h (Nat.not_lt_zero _), rfl⟩)
      have L := c1.lst hc
      have ev : v = v2 := by
        rcases x2 with ⟨V, k1, k2, k3⟩ | ⟨k1, k2⟩
        · rw [c4 V (by omega) (L.uniq k2), k3]
        · rw [c3 (L.uniq k1), k2]
      rw [ev]
      exact ⟨_, e_X9_learn.trans ((p_X9_learn_0FT_L33 (b1 w') (by decide) (b2 w') (by decide)).trans c2), mch.thr w', M'.2.2.2.2.2.2.2.1.thr⟩
    · exact agr_q hp ok X M (v := -1) (e_X8_learn.trans (p_X8_learn_0FF_R hp a1 (by decide) (x_yn0 (d := 38) h2) rfl)) (xch.refl w)
        (fun w' M' => ⟨_, e_X9_learn.trans (p_X9_learn_0FF_R (b1 w') (by decide) (m_inL0 (d := 38) (N := 2) (by decide) (by decide) h2) rfl), mch.thr w', M'.2.2.2.2.2.2.2.1.thr⟩)
  · exact agr_q hp ok X M (v := -1) (e_X8_learn.trans (p_X8_learn_0T_R hp (x_eff0 (d := 38) h1) rfl)) (xch.refl w)
      (fun w' M' => ⟨_, e_X9_learn.trans (p_X9_learn_0T_R (m_inL0 (d := 38) (N := 1024) (by decide) (by decide) h1) rfl), mch.thr w', M'.2.2.2.2.2.2.2.1.thr⟩)
end LEARN

/-! the hat: lifted, saw, forget agree -/
section HAT2
variable {p : Nat} {c : Nat → Nat → Nat} {rs : Nat → List Nat} {sp : Nat} {us : List (Nat × List Nat × Nat)} {im : Nat → Option ((Nat → List Nat) × Nat)} {ht : List (Nat × Nat)} {bt : Nat → Nat} {n : Nat} {tr : Int64} {w w2 : Wd}
theorem mch.c49 (w : Wd) (g : Nat → Int32) : mch w (chg w 49 g) := ⟨fun q h1 h2 h3 => chg_ne w g (by omega), fun j _ _ => by rw [chg_ne w g (b := 34) (by decide)], rfl⟩
theorem MR.c49 {g : Nat → Int32} (M : MR c rs sp us im ht bt n tr w) : MR c rs sp us im ht bt n tr (chg w 49 g) := by
  refine M.mch (mch.c49 w g) ?_
  have C := M.2.2.2.2.2.2.2.1
  unfold MCa at *
  rw [chg_ne w g (b := 34) (by decide), chg_ne w g (b := 48) (by decide)]
  exact C
theorem l_clear {l d : Nat} : ∀ (m k : Nat) (v3 v4 v5 : Value) (g : Nat → Int32), m + k = 1024 → (∀ a, a < k → g a = 0) → ∃ g2, (∀ a, a < 1024 → g2 a = 0) ∧ runs (T_X9_atWorst (sem d)) (2, [.ref 34, .int (nI l), .int (nI k), v3, v4, v5], [], chg w 49 g) = runs (T_X9_atWorst (sem d)) (29, [.ref 34, .int (nI l), .int 0, .int 0, .int 0, .null], [], chg w 49 g2) := by
  intro m
  induction m with
  | zero =>
    intro k v3 v4 v5 g hk hg
    have ek : k = 1024 := by omega
    subst ek
    exact ⟨g, hg, p_X9_atWorst_2T_L29 (by decide)⟩
  | succ m ih =>
    intro k v3 v4 v5 g hk hg
    have t := p_X9_atWorst_2F_L2 (ex := sem d) (x1 := nI l) (x2 := nI k) (v3 := v3) (v4 := v4) (v5 := v5) (w := chg w 49 g) (nI_ge (a := k) (b := 1024) (by omega) (by decide)) (vp_in_nI (by omega) (by decide))
    rw [nI_clamp (by omega), nI_1, updI_chg, chg_at, chg_chg] at t
    obtain ⟨g2, h1, h2⟩ := ih (k + 1) .null .null .null (upd g k 0) (by omega) (fun a ha => by
      by_cases e : a = k
      · rw [e, upd_at]
      · rw [upd_ne _ _ e]; exact hg a (by omega))
    exact ⟨g2, h1, t.trans h2⟩
theorem foN_lenM {l : Nat} : ∀ k : Nat, (foN (stM (hAns c ht l)) [] k).length ≤ k := by
  intro k
  induction k with
  | zero => exact Nat.le_refl _
  | succ k ih =>
    have e : foN (stM (hAns c ht l)) [] (k + 1) = stM (hAns c ht l) (foN (stM (hAns c ht l)) [] k) k := rfl
    rw [e]
    cases hy : hatY c ht k with
    | false => rw [stM_no (c := c) (ht := ht) (fun r h => hAns_f h) hy]; omega
    | true =>
      obtain ⟨r, r1, r2, _⟩ := hatY_t hy
      rw [stM_t r1, hAns_t r2]
      simp only [List.length_cons]
      omega
theorem max_i {a b : Nat} (ha : a < 2 ^ 31) (hb : b < 2 ^ 31) : (nI b ≤ nI a ∧ max a b = a) ∨ (¬ nI b ≤ nI a ∧ max a b = b) := by
  by_cases h : b ≤ a
  · exact Or.inl ⟨nI_le h ha, Nat.max_eq_left h⟩
  · exact Or.inr ⟨nI_ge (by omega) hb, Nat.max_eq_right (by omega)⟩
theorem l_atWorst {l d : Nat} (M : MR c rs sp us im ht bt n tr w) (hc : okc c) (hh : okh ht) (hl : l < 2 ^ 31) : ∀ (m k : Nat) (v5 : Value) (g : Nat → Int32), m + k = 216 → (∀ a, a < 1024 → g a = nI ((foN (stM (hAns c ht l)) [] k).count a)) →
    ∃ g2, runs (T_X9_atWorst (sem (d + 2))) (29, [.ref 34, .int (nI l), .int (nI ((foN (stM (hAns c ht l)) [] k).count 1024)), .int (nI (mxm (foN (stM (hAns c ht l)) [] k))), .int (nI k), v5], [], chg w 49 g) = some (some (.int (nI (mxm (foN (stM (hAns c ht l)) [] 216)))), chg w 49 g2) := by
  intro m
  induction m with
  | zero =>
    intro k v5 g hk hg
    have ek : k = 216 := by omega
    subst ek
    exact ⟨g, p_X9_atWorst_29T_R (by decide)⟩
  | succ m ih =>
    intro k v5 g hk hg
    have M2 : MR c rs sp us im ht bt n tr (chg w 49 g) := M.c49
    have g1 : ¬ (216 : Int32) ≤ nI k := nI_ge (a := k) (b := 216) (by omega) (by decide)
    have e1 := m_isHat (d := d) M2.1 hc M2.2.2.2.2.1 hh M2.2.2.2.2.2.2.2.2 (y := k) (by omega)
    have e2 : foN (stM (hAns c ht l)) [] (k + 1) = stM (hAns c ht l) (foN (stM (hAns c ht l)) [] k) k := rfl
    have hlen := foN_lenM (c := c) (ht := ht) (l := l) k
    generalize hA : foN (stM (hAns c ht l)) [] k = A at *
    have k1 := mxm_le A
    have k2 := fun a => List.count_le_length (a := a) (l := A)
    cases hy : hatY c ht k with
    | false =>
      rw [hy] at e1
      rw [stM_no (c := c) (ht := ht) (fun r h => hAns_f h) hy] at e2
      obtain ⟨g2, h2⟩ := ih (k + 1) .null g (by omega) (by intro a ha; rw [e2]; exact hg a ha)
      rw [e2] at h2
      refine ⟨g2, (p_X9_atWorst_29FT_L29 g1 e1 rfl).trans ?_⟩
      rw [nI_1]
      exact h2
    | true =>
      rw [hy] at e1
      obtain ⟨r, r1, r2, r3, r4, r5⟩ := hatY_t hy
      rw [stM_t r1, hAns_t r2] at e2
      have e3 := m_layersOf (d := d + 1) (w := chg w 49 g) r5
      rw [r3] at e3
      have hl5 := r5.1
      by_cases hsh : r.length < l
      · have ea : ansN c r l = 1024 := if_pos hsh
        rw [ea] at e2
        have g5 : ¬ nI l ≤ nI r.length := nI_ge hsh hl
        obtain ⟨g2, h2⟩ := ih (k + 1) .null g (by omega) (by
          intro a ha
          rw [e2, List.count_cons_of_ne (fun h => by omega)]
          exact hg a ha)
        rw [e2, List.count_cons_self] at h2
        have em : mxm (1024 :: A) = max (mxm A) (A.count 1024 + 1) := rfl
        rw [em] at h2
        have k3 := k2 1024
        rcases max_i (a := mxm A) (b := A.count 1024 + 1) (by omega) (by omega) with ⟨c1, c2⟩ | ⟨c1, c2⟩
        · rw [c2] at h2
          refine ⟨g2, (p_X9_atWorst_29FFFT_L29 g1 e1 (by decide) e3 g5 (by rw [nI_1]; exact c1)).trans ?_⟩
          rw [nI_1, nI_1]; exact h2
        · rw [c2] at h2
          refine ⟨g2, (p_X9_atWorst_29FFFF_L29 g1 e1 (by decide) e3 g5 (by rw [nI_1]; exact c1)).trans ?_⟩
          rw [nI_1, nI_1]; exact h2
      · have ea : ansN c r l = wk c (r.drop l) := if_neg hsh
        have hwk := wk_lt hc (r4.drop l).2
        have g5 : nI l ≤ nI r.length := nI_le (by omega) (by omega)
        have e4 := m_withoutTop (d := d + 1) (n := l) (w := chg w 49 g) r5 hl
        rw [r3] at e4
        have e5 := m_worksOf (d := d + 1) M2.1 hc (r4.drop l)
        rw [ea] at e2
        generalize wk c (r.drop l) = a at *
        have hv : vp_in (nI a) 1024 := vp_in_nI (by omega) (by decide)
        have hcl : (nI a).toNatClampNeg = a := nI_clamp (by omega)
        have eg : (chg w 49 g).1 49 (nI a).toNatClampNeg = nI (A.count a) := by rw [chg_at, hcl]; exact hg a (by omega)
        have ew : updI (chg w 49 g) 49 (nI a).toNatClampNeg ((chg w 49 g).1 49 (nI a).toNatClampNeg + 1) = chg w 49 (upd g a (nI (A.count a + 1))) := by
          rw [eg, nI_1, hcl, updI_chg, chg_at, chg_chg]
        have en : (updI (chg w 49 g) 49 (nI a).toNatClampNeg ((chg w 49 g).1 49 (nI a).toNatClampNeg + 1)).1 49 (nI a).toNatClampNeg = nI (A.count a + 1) := by
          rw [ew, chg_at, hcl, upd_at]
        obtain ⟨g2, h2⟩ := ih (k + 1) .null (upd g a (nI (A.count a + 1))) (by omega) (by
          intro b hb
          rw [e2]
          by_cases hab : b = a
          · subst hab
            rw [upd_at, List.count_cons_self]
          · rw [upd_ne _ _ hab, List.count_cons_of_ne (fun h => hab h.symm)]
            exact hg b hb)
        rw [e2, List.count_cons_of_ne (fun h => by omega)] at h2
        have em : mxm (a :: A) = max (mxm A) (A.count a + 1) := rfl
        rw [em] at h2
        have k3 := k2 a
        rcases max_i (a := mxm A) (b := A.count a + 1) (by omega) (by omega) with ⟨c1, c2⟩ | ⟨c1, c2⟩
        · rw [c2] at h2
          have t := p_X9_atWorst_29FFTT_L29 (v5 := v5) (x2 := nI (A.count 1024)) (x3 := nI (mxm A)) g1 e1 (by decide) e3 g5 e4 e5 hv hv hv (by rw [en]; exact c1)
          rw [ew, nI_1] at t
          exact ⟨g2, t.trans h2⟩
        · rw [c2] at h2
          have t := p_X9_atWorst_29FFTF_L29 (v5 := v5) (x2 := nI (A.count 1024)) (x3 := nI (mxm A)) g1 e1 (by decide) e3 g5 e4 e5 hv hv hv (by rw [en]; exact c1) hv
          rw [en, ew, nI_1] at t
          exact ⟨g2, t.trans h2⟩
theorem m_atWorst {l d : Nat} (M : MR c rs sp us im ht bt n tr w) (hc : okc c) (hh : okh ht) (hl : l < 2 ^ 31) : ∃ g2, sem (d + 3) 186 [.ref 34, .int (nI l)] w = some (some (.int (nI (lftN c ht l))), chg w 49 g2) := by
  obtain ⟨g1, a1, a2⟩ := l_clear (w := w) (l := l) (d := d + 2) 1024 0 .null .null .null (w.1 49) (by omega) (fun a h => absurd h (Nat.not_lt_zero _))
  obtain ⟨g2, b1⟩ := l_atWorst (d := d) M hc hh hl 216 0 .null g1 (by omega) (fun a ha => a1 a ha)
  rw [hat_foldM] at b1
  rw [chg_self] at a2
  exact ⟨g2, e_X9_atWorst.trans (p_X9_atWorst_0_L2.trans (a2.trans b1))⟩
theorem bst_inv {f : Nat → Nat} : ∀ k, (bst f k = (-9, 157)) ∨ ∃ b, b < k ∧ bst f k = (nI b, f b) := by
  intro k
  induction k with
  | zero => exact Or.inl rfl
  | succ k ih =>
    unfold bst
    split
    · exact Or.inr ⟨k, by omega, rfl⟩
    · rcases ih with h | ⟨b, h1, h2⟩
      · exact Or.inl h
      · exact Or.inr ⟨b, by omega, h2⟩
theorem l_mlifted {d : Nat} (M : MR c rs sp us im ht bt n tr w) (hc : okc c) (hh : okh ht) : ∀ (m k : Nat) (v3 : Value) (g : Nat → Int32), m + k = 4 →
    ∃ g2, runs (T_X9_lifted (sem (d + 3))) (10, [.ref 34, .int (bst (lftN c ht) k).1, .int (nI k), v3], [], chg w 49 g) = some (some (.int (bst (lftN c ht) 4).1), chg w 49 g2) := by
  intro m
  induction m with
  | zero =>
    intro k v3 g hk
    have ek : k = 4 := by omega
    subst ek
    exact ⟨g, p_X9_lifted_10T_R (by decide)⟩
  | succ m ih =>
    intro k v3 g hk
    have M2 : MR c rs sp us im ht bt n tr (chg w 49 g) := M.c49
    have h1 : ¬ (4 : Int32) ≤ nI k := nI_ge (a := k) (b := 4) (by omega) (by decide)
    obtain ⟨g2, e1⟩ := m_atWorst (d := d) (l := k) M2 hc hh (by omega)
    rw [chg_chg] at e1
    obtain ⟨g3, e2⟩ := ih (k + 1) .null g2 (by omega)
    have e3 : bst (lftN c ht) (k + 1) = if 0 < lftN c ht k ∧ lftN c ht k < (bst (lftN c ht) k).2 then (nI k, lftN c ht k) else bst (lftN c ht) k := rfl
    have k1 := fun l => lftN_le (c := c) (ht := ht) (l := l)
    have k1k := k1 k
    rw [e3] at e2
    by_cases a1 : 0 < lftN c ht k
    · have p1 : ¬ nI (lftN c ht k) ≤ 0 := nI_nle a1 (by omega)
      rcases bst_inv (f := lftN c ht) k with hb | ⟨b, hb1, hb⟩
      · rw [hb] at e2 ⊢
        rw [if_pos ⟨a1, by show lftN c ht k < 157; omega⟩] at e2
        refine ⟨g3, (p_X9_lifted_10FFT_L10 h1 e1 p1 rfl).trans ?_⟩
        rw [nI_1]
        exact e2
      · rw [hb] at e2 ⊢
        have n9 : ¬ nI b = -9 := fun h => by
          have := nI_pos (n := b) (by omega)
          rw [h] at this
          exact this (by decide)
        have M3 : MR c rs sp us im ht bt n tr (chg w 49 g2) := M.c49
        obtain ⟨g4, e4⟩ := m_atWorst (d := d) (l := b) M3 hc hh (by omega)
        rw [chg_chg] at e4
        have k1b := k1 b
        by_cases a2 : lftN c ht k < lftN c ht b
        · rw [if_pos ⟨a1, a2⟩] at e2
          obtain ⟨g5, e5⟩ := ih (k + 1) .null g4 (by omega)
          rw [e3, hb, if_pos ⟨a1, a2⟩] at e5
          refine ⟨g5, (p_X9_lifted_10FFFF_L10 h1 e1 p1 n9 e4 (nI_ge a2 (by omega))).trans ?_⟩
          rw [nI_1]
          exact e5
        · obtain ⟨g5, e5⟩ := ih (k + 1) .null g4 (by omega)
          rw [e3, hb, if_neg (fun h => a2 h.2)] at e5
          refine ⟨g5, (p_X9_lifted_10FFFT_L10 h1 e1 p1 n9 e4 (nI_le (by omega) (by omega))).trans ?_⟩
          rw [nI_1]
          exact e5
    · rw [if_neg (fun h => a1 h.1)] at e2
      refine ⟨g3, (p_X9_lifted_10FT_L10 h1 e1 ((nI_le0 (by omega)).mpr (by omega))).trans ?_⟩
      rw [nI_1]
      exact e2
theorem agr_lifted (J : Jn w) : agr 122 187 [.ref 0] [.ref 34] w := by
  obtain ⟨p, c, rs, sp, us, im, ht, bt, n, tr, hp, ok, X, M⟩ := J
  have hc := ok.1
  have hh := ok.2.2.2.2.2.1
  obtain ⟨g, e1⟩ := s_bestToLift (d := 32) hp X.1 hc X.2.2.1 hh
  refine agr_q hp ok X M (e_X8_lifted.trans (p_X8_lifted_0_R hp X.2.2.2.2.2.1 e1)) (fun q h => ⟨chg_ne w g (by omega), rfl⟩) (fun w' M' => ?_)
  have M1 := M'.thr
  obtain ⟨g2, t⟩ := l_mlifted (d := 36) M1 hc hh 4 0 .null ((updI w' 34 0 0).1 49) (by omega)
  rw [chg_self] at t
  exact ⟨_, e_X9_lifted.trans (p_X9_lifted_0_L10.trans t), (mch.thr w').trans (mch.c49 _ _), (M1.c49 (g := g2)).2.2.2.2.2.2.2.1⟩
theorem ht_app {l e : Nat} {i : Nat} (h : i < (ht ++ [(l, e)]).length) : (i = ht.length ∧ (ht ++ [(l, e)])[i] = (l, e)) ∨ ∃ h2 : i < ht.length, (ht ++ [(l, e)])[i] = ht[i] := by
  by_cases h2 : i < ht.length
  · exact Or.inr ⟨h2, List.getElem_append_left h2⟩
  · have hi : i = ht.length := by
      rw [List.length_append] at h
      simp only [List.length_cons, List.length_nil] at h
      omega
    subst hi
    exact Or.inl ⟨rfl, by rw [List.getElem_append_right (Nat.le_refl _)]; simp⟩
theorem XR.hat {ht2 : List (Nat × Nat)} (hp : scp p) (X : XR p c rs sp us im ht bt n tr w) (f : frm 15 18 w w2) (H : XHt ht2 w2) : XR p c rs sp us im ht2 bt n tr w2 := by
  obtain ⟨x1, x2, x3, x4, x5, x6, x7⟩ := X
  refine ⟨x1.of hp (fun q h1 _ => (f q (by omega)).1), x2.of (fun q _ h2 => (f q (by omega)).1), H, ?_, ?_, ?_, ?_⟩
  · unfold XT at *
    rw [(f 1 (by omega)).1, (f 2 (by omega)).1]
    exact x4
  · rw [(f 19 (by omega)).2]; exact x5
  · rw [(f 0 (by omega)).1]; exact x6
  · rw [(f 0 (by omega)).1]; exact x7
/-- what the hat's sights change at the reference -/
def hch (w w2 : Wd) : Prop := (∀ q, q ≠ 34 → q ≠ 44 → q ≠ 45 → w2.1 q = w.1 q) ∧ (∀ j, j ≠ 0 → j ≠ 26 → w2.1 34 j = w.1 34 j) ∧ w2.2 = w.2
theorem MR.hat {ht2 : List (Nat × Nat)} (M : MR c rs sp us im ht bt n tr w) (h : hch w w2) (H : MHt ht2 w2) : MR c rs sp us im ht2 bt n tr w2 := by
  obtain ⟨h1, h2, h3⟩ := h
  obtain ⟨m1, m2, m3, m4, m5, m6, m7, m8, m9⟩ := M
  refine ⟨?_, ?_, ?_, ?_, H, ?_, by rw [h3]; exact m7, ?_, ?_⟩
  · unfold MS at *
    rw [h2 13 (by decide) (by decide), h2 14 (by decide) (by decide), h2 15 (by decide) (by decide), h1 39 (by decide) (by decide) (by decide), h1 36 (by decide) (by decide) (by decide), h1 38 (by decide) (by decide) (by decide)]
    exact m1
  · unfold MRo at *
    rw [h1 40 (by decide) (by decide) (by decide)]
    exact m2
  · unfold MUn at *
    rw [h2 23 (by decide) (by decide), h1 43 (by decide) (by decide) (by decide)]
    exact m3
  · unfold MIm at *
    rw [h1 41 (by decide) (by decide) (by decide), h1 42 (by decide) (by decide) (by decide)]
    exact m4
  · unfold MT at *
    rw [h2 3 (by decide) (by decide), h1 35 (by decide) (by decide) (by decide)]
    exact m6
  · unfold MCa at *
    rw [h2 30 (by decide) (by decide), h1 48 (by decide) (by decide) (by decide)]
    exact m8
  · unfold MVZ MV at *
    rw [h1 47 (by decide) (by decide) (by decide)]
    exact m9
theorem agr_forget (J : Jn w) : agr 119 181 [.ref 0] [.ref 34] w := by
  obtain ⟨p, c, rs, sp, us, im, ht, bt, n, tr, hp, ok, X, M⟩ := J
  have e1 := s_seen (d := 38) X.2.2.1
  have f : frm 15 18 w (updI w 15 2 0) := frm.upI w (by decide) (by decide)
  have ok2 : okZ c rs us im [] bt n := ⟨ok.1, ok.2.1, ok.2.2.1, ok.2.2.2.1, ok.2.2.2.2.1, ⟨Nat.zero_le _, fun q h => absurd h List.not_mem_nil⟩, ok.2.2.2.2.2.2⟩
  refine agr_s (ht2 := []) hp ok2 M (e_X8_forget.trans (p_X8_forget_0_R e1 (e_X1_seeNothing.trans p_X1_seeNothing_0_R))) (fun q hq => f q (by omega)) (X.hat hp f ⟨rd_e, fun i h => absurd h (Nat.not_lt_zero _)⟩) (fun w' M' => ?_)
  have t := p_X9_forget_0_R (ex := sem 39) (w := w')
  rw [M'.2.2.2.2.1.1] at t
  refine ⟨_, e_X9_forget.trans t, fun q hq => ⟨?_, rfl⟩, M'.hat ⟨fun q q1 q2 q3 => ?_, fun j j0 j1 => ?_, rfl⟩ ⟨rd_e, fun i h => absurd h (Nat.not_lt_zero _)⟩⟩
  · funext z; rw [rd_n (by omega), rd_n (by omega)]
  · funext z; rw [rd_n q1, rd_n q1]
  · rw [rd_k j1, rd_k j0]
theorem agr_saw {x1 x2 : Int32} (J : Jn w) : agr 118 180 [.ref 0, .int x1, .int x2] [.ref 34, .int x1, .int x2] w := by
  obtain ⟨p, c, rs, sp, us, im, ht, bt, n, tr, hp, ok, X, M⟩ := J
  have hh := ok.2.2.2.2.2.1
  have h6 := hh.1
  rcases in_cs (x := x1) (N := 4) (by decide) with ⟨l, hl, rfl⟩ | h1
  · have k1 : ¬ nI l < 0 := nI_pos (by omega)
    have k2 : ¬ (3 : Int32) < nI l := nI_nlt (a := 3) (b := l) (by omega) (by decide)
    have b1 := fun w' => m_inL1 (w := updI w' 34 0 0) (d := 38) (N := 4) (hi := 3) (by decide) (by decide) hl
    rcases in_cs (x := x2) (N := 1024) (by decide) with ⟨e, he, rfl⟩ | h2
    · have a1 := x_eff1 (w := w) (d := 38) he
      have b2 := fun w' => m_inL1 (w := updI w' 34 0 0) (d := 38) (N := 1024) (hi := 1023) (by decide) (by decide) he
      by_cases hfull : ht.length < 6
      · have z0 := X.2.2.1.1
        have c1 := fun w => s_put (d := 37) (a := 16) (k := ht.length) (x := nI l) (w := w) rfl (by show _ < 6; exact hfull)
        have c2 := fun w => s_put (d := 37) (a := 17) (k := ht.length) (x := nI e) (w := w) rfl (by show _ < 6; exact hfull)
        have t := p_X1_see_0T_R (ex := sem 38) (x1 := nI l) (x2 := nI e) (w := w) (by rw [z0]; exact nI_lt (b := 6) hfull (by decide)) (by rw [z0]; exact c1 w) (by rw [rd_n (by decide), z0]; exact c2 _)
        rw [rd_n (show 15 ≠ 17 by decide), rd_n (show 15 ≠ 16 by decide), z0, nI_1] at t
        have f : frm 15 18 w (updI (updI (updI w 16 ht.length (nI l)) 17 ht.length (nI e)) 15 2 (nI (ht.length + 1))) := ((frm.upI w (by decide) (by decide)).trans (frm.upI _ (by decide) (by decide))).trans (frm.upI _ (by decide) (by decide))
        have H2 : XHt (ht ++ [(l, e)]) (updI (updI (updI w 16 ht.length (nI l)) 17 ht.length (nI e)) 15 2 (nI (ht.length + 1))) := by
          refine ⟨by rw [rd_e, List.length_append]; rfl, fun i hi => ?_⟩
          rcases ht_app hi with ⟨g1, g2⟩ | ⟨g1, g2⟩
          · rw [g2, g1]
            exact ⟨by rw [rd_n (by decide), rd_n (by decide), rd_e], by rw [rd_n (by decide), rd_e]⟩
          · rw [g2]
            have q := X.2.2.1.2 i g1
            exact ⟨by rw [rd_n (by decide), rd_n (by decide), rd_k (by omega)]; exact q.1, by rw [rd_n (by decide), rd_k (by omega), rd_n (by decide)]; exact q.2⟩
        have ok2 : okZ c rs us im (ht ++ [(l, e)]) bt n := by
          refine ⟨ok.1, ok.2.1, ok.2.2.1, ok.2.2.2.1, ok.2.2.2.2.1, ⟨by rw [List.length_append]; simp only [List.length_cons, List.length_nil]; omega, fun q hq => ?_⟩, ok.2.2.2.2.2.2⟩
          rcases List.mem_append.mp hq with hq | hq
          · exact hh.2 q hq
          · rw [List.mem_singleton.mp hq]
            exact ⟨by show l ≤ 3; omega, he⟩
        have e9 := s_seen (d := 38) H2
        rw [show (ht ++ [(l, e)]).length = ht.length + 1 by rw [List.length_append]; rfl] at e9
        refine agr_s hp ok2 M (e_X8_saw.trans (p_X8_saw_0FFTF_R k1 k2 a1 (by decide) (e_X1_see.trans t) (by decide) e9)) (fun q hq => f q (by omega)) (X.hat hp f H2) (fun w' M' => ?_)
        have y0 := M'.thr.2.2.2.2.1.1
        have t2 := p_X9_saw_0FTT_R (ex := sem 39) (x1 := nI l) (x2 := nI e) (b1 w') (by decide) (b2 w') (by decide) (by rw [y0]; exact fun h => by have := (nI_eq (b := 6) (by omega) (by decide)).mp h; omega) (by rw [y0]; exact vp_in_nI (by omega) (by decide)) (by rw [y0]; exact vp_in_nI (by omega) (by decide))
        rw [y0, nI_1, nI_clamp (by omega)] at t2
        refine ⟨_, e_X9_saw.trans t2, fun q hq => ⟨?_, rfl⟩, M'.hat ⟨fun q q1 q2 q3 => ?_, fun j j0 j1 => ?_, rfl⟩ ⟨?_, fun i hi => ?_⟩⟩
        · funext z; rw [rd_n (by omega), rd_n (by omega), rd_n (by omega), rd_n (by omega)]
        · funext z; rw [rd_n q1, rd_n q3, rd_n q2, rd_n q1]
        · rw [rd_k j1, rd_n (by decide), rd_n (by decide), rd_k j0]
        · rw [rd_e, List.length_append]; rfl
        · rcases ht_app hi with ⟨g1, g2⟩ | ⟨g1, g2⟩
          · rw [g2, g1]
            exact ⟨by rw [rd_n (by decide), rd_n (by decide), rd_e], by rw [rd_n (by decide), rd_e]⟩
          · rw [g2]
            have q := M'.2.2.2.2.1.2 i g1
            exact ⟨by rw [rd_n (by decide), rd_n (by decide), rd_k (by omega), rd_n (by decide)]; exact q.1, by rw [rd_n (by decide), rd_k (by omega), rd_n (by decide), rd_n (by decide)]; exact q.2⟩
      · have e0 : ¬ (w.1 15 2) < 6 := by rw [X.2.2.1.1]; exact nI_nlt (b := 6) (by omega) (by omega)
        exact agr_q hp ok X M (v := -3) (e_X8_saw.trans (p_X8_saw_0FFTT_R k1 k2 a1 (by decide) (e_X1_see.trans (p_X1_see_0F_R e0)) rfl)) (xch.refl w)
          (fun w' M' => ⟨_, e_X9_saw.trans (p_X9_saw_0FTF_R (b1 w') (by decide) (b2 w') (by decide) (by rw [M'.thr.2.2.2.2.1.1, show ht.length = 6 by omega]; rfl)), mch.thr w', M'.2.2.2.2.2.2.2.1.thr⟩)
    · exact agr_q hp ok X M (v := -1) (e_X8_saw.trans (p_X8_saw_0FFF_R k1 k2 (x_eff0 (d := 38) h2) rfl)) (xch.refl w)
        (fun w' M' => ⟨_, e_X9_saw.trans (p_X9_saw_0FF_R (b1 w') (by decide) (m_inL0 (d := 38) (N := 1024) (by decide) (by decide) h2) rfl), mch.thr w', M'.2.2.2.2.2.2.2.1.thr⟩)
  · have bx : sem 40 118 [.ref 0, .int x1, .int x2] w = some (some (.int (-1)), w) := by
      rcases out_cs h1 with h | ⟨h, h2⟩
      · exact e_X8_saw.trans (p_X8_saw_0T_R h)
      · refine e_X8_saw.trans (p_X8_saw_0FT_R h ?_)
        rw [fa_le] at h2
        rw [fa_lt]
        have a1 : (nI 4).toInt = 4 := by decide
        have a2 : (3 : Int32).toInt = 3 := by decide
        rw [a1] at h2
        rw [a2]
        omega
    exact agr_q hp ok X M bx (xch.refl w)
      (fun w' M' => ⟨_, e_X9_saw.trans (p_X9_saw_0T_R (m_inL0 (d := 38) (N := 4) (by decide) (by decide) h1) rfl), mch.thr w', M'.2.2.2.2.2.2.2.1.thr⟩)
end HAT2

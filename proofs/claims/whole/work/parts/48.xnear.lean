/-! the search: on from a row; the nearest that works just so -/
section XNEAR
variable {d p : Nat} {c : Nat → Nat → Nat} {set : Nat} {u : List Nat} {lab : List Nat → Nat} {D : List Nat → Bool}
theorem i_lab (a b x : Nat) : nI a + nI b * 65536 + 8 + nI x = nI (a + (65536 * b + 8 + x)) := by
  have k1 : nI b * 65536 = nI (b * 65536) := pk_mul b 65536
  have k2 : (8 : Int32) = nI 8 := rfl
  rw [k1, k2, nI_add, nI_add, nI_add]
  congr 1
  omega
theorem offd_some {k : Nat} {q : List Nat} (h : af c set u k = some q) : offd c set u lab (k + 1) = upLb (offd c set u lab k) q (lab u + ext c (lab u) u k) := by
  show (match af c set u k with
    | some q => fun r => if r = q then min (offd c set u lab k q) (lab u + ext c (lab u) u k) else offd c set u lab k r
    | none => offd c set u lab k) = _
  rw [h]
  rfl
theorem offd_none {k : Nat} (h : af c set u k = none) : offd c set u lab (k + 1) = offd c set u lab k := by
  show (match af c set u k with
    | some q => fun r => if r = q then min (offd c set u lab k q) (lab u + ext c (lab u) u k) else offd c set u lab k r
    | none => offd c set u lab k) = _
  rw [h]
theorem l_goOn (hp : scp p) (hc : okc c) (hs : set < 2 ^ 31) (hu : okr (c 0 0) u) (hl : lab u ≤ 18300000) (hD : ∀ r, okr 5 r → D r = true → lab r ≤ lab u) : ∀ (m k : Nat) (v6 v7 : Value) (h : Nat → Nat) (n : Nat) (w : Wd), m + k = 7 → XS p c w → Sr (offd c set u lab k) D h n w →
    ∃ h2 n2 w2, runs (T_X6_goOnFrom (sem (d + 4))) (13, [.ref 11, .ref p, .int (nI (cx u)), .int (nI set), .int (nI (lab u)), .int (nI k), v6, v7], [], w) = some (none, w2) ∧ frm 11 15 w w2 ∧ Sr (offd c set u lab 7) D h2 n2 w2 := by
  intro m
  induction m with
  | zero =>
    intro k v6 v7 h n w hk X S
    have ek : k = 7 := by omega
    subst ek
    exact ⟨h, n, w, p_X6_goOnFrom_13T_R hp (by decide), frm.refl _ _ _, S⟩
  | succ m ih =>
    intro k v6 v7 h n w hk X S
    have h1 : ¬ (6 : Int32) < nI k := nI_nlt (a := 6) (b := k) (by omega) (by decide)
    have e1 := s_after (d := d) (x := k) hp X hc hu hs (by omega)
    cases ha : af c set u k with
    | none =>
      rw [ha] at e1
      obtain ⟨h2, n2, w2, g1, g2⟩ := ih (k + 1) .null .null h n w (by omega) X (by rw [offd_none ha]; exact S)
      refine ⟨h2, n2, w2, (p_X6_goOnFrom_13FT_L13 hp h1 e1 (oI_neg rfl)).trans ?_, g2⟩
      rw [nI_1]
      exact g1
    | some q =>
      rw [ha] at e1
      have hq := (af_ok hu (by omega) ha).five hc
      have e3 := oI_nn (o := some q) rfl hq
      have e2 := s_costOf (d := d + 1) hp X hc hu (by omega) ha
      have k9 := cst_le hc hu (by omega) ha
      have hx : ext c (lab u) u k ≤ 65536 * 9 + 8 + 7 := by
        unfold ext
        split <;> omega
      obtain ⟨h2, n2, w2, g1, g2, g3⟩ := s_offer (d := d) (q := q) (l := lab u + ext c (lab u) u k) S hq (by unfold far; omega) (fun hd => by
        have a1 := hD q hq hd
        have a2 := offd_le (c := c) (set := set) (u := u) (lab := lab) k q
        omega)
      have X2 : XS p c w2 := X.of hp (fun q h1 h2 => (g2 q (Or.inr (by omega))).1)
      rw [← offd_some ha] at g3
      obtain ⟨h3, n3, w3, f1, f2, f3⟩ := ih (k + 1) .null .null h2 n2 w2 (by omega) X2 g3
      by_cases h0 : lab u = 0
      · have e4 : nI (lab u) + nI (cst c u k) * 65536 + 8 + nI k = nI (lab u + ext c (lab u) u k) := by
          rw [i_lab]
          unfold ext
          rw [if_pos h0]
        rw [← e4] at g1
        refine ⟨h3, n3, w3, (p_X6_goOnFrom_13FFF_L13 hp h1 e1 e3 (by rw [h0]; rfl) e2 g1).trans ?_, g2.trans f2, f3⟩
        rw [nI_1]
        exact f1
      · have e4 : nI (lab u) + nI (cst c u k) * 65536 + 8 + 0 = nI (lab u + ext c (lab u) u k) := by
          have := i_lab (lab u) (cst c u k) 0
          unfold ext
          rw [if_neg h0]
          exact this
        rw [← e4] at g1
        refine ⟨h3, n3, w3, (p_X6_goOnFrom_13FFT_L13 hp h1 e1 e3 (fun h => h0 ((nI_eq (b := 0) (by omega) (by decide)).mp h)) e2 g1).trans ?_, g2.trans f2, f3⟩
        rw [nI_1]
        exact f1
theorem s_goOnFrom {h : Nat → Nat} {n : Nat} {w : Wd} (hp : scp p) (hc : okc c) (hs : set < 2 ^ 31) (hu : okr (c 0 0) u) (hl : lab u ≤ 18300000) (hD : ∀ r, okr 5 r → D r = true → lab r ≤ lab u) (X : XS p c w) (S : Sr lab D h n w) :
    ∃ h2 n2 w2, sem (d + 5) 84 [.ref 11, .ref p, .int (nI (cx u)), .int (nI set)] w = some (none, w2) ∧ frm 11 15 w w2 ∧ Sr (offd c set u lab 7) D h2 n2 w2 := by
  have hu5 := hu.five hc
  have hcx := cx_lt hu5
  have e1 := s_at (d := d + 3) (a := 12) (k := cx u) (w := w) rfl (by show _ < 3906; exact hcx)
  rw [(S.1 _ hcx).2] at e1
  try dsimp only at e1
  rw [dx_cx hu5] at e1
  obtain ⟨h2, n2, w2, g1, g2⟩ := l_goOn (d := d) hp hc hs hu hl hD 7 0 .null .null h n w (by omega) X S
  exact ⟨h2, n2, w2, e_X6_goOnFrom.trans ((p_X6_goOnFrom_0_L13 hp e1).trans g1), g2⟩
theorem l_nearest {e : Nat} {s : List Nat} (hp : scp p) (hc : okc c) (hset : set < 2 ^ 31) (he : e < 2 ^ 10) (hs : okr (c 0 0) s) (ht : ∃ xs, leads c set e xs s) :
    ∀ (m i : Nat) (v2 v6 : Value) (lab : List Nat → Nat) (D : List Nat → Bool) (h : Nat → Nat) (n : Nat) (w : Wd), m + i = 3906 → XS p c w → Sr lab D h n w → dij c set s lab D →
    (∀ r, okr 5 r → lab r < far → okr (c 0 0) r) → (∀ r, okr 5 r → D r = true → okr (c 0 0) r ∧ wk c r ≠ e) →
    (∃ g : Nat → Nat, (∀ a, a < i → g a < 3906 ∧ D (dx 5 (g a)) = true) ∧ ∀ a b, a < i → b < i → g a = g b → a = b) →
    ∃ xs w2, runs (T_X6_nearest (sem (d + 5))) (23, [.ref 11, .ref p, v2, .int (nI e), .int (nI set), .int (nI i), v6], [], w) = some (some (.int (nI (wX c set xs s))), w2) ∧ frm 11 15 w w2 ∧ leads c set e xs s ∧ ∀ ys, leads c set e ys s → wX c set xs s ≤ wX c set ys s := by
  have unset : ∀ (D : List Nat → Bool), (∀ r, okr 5 r → D r = true → okr (c 0 0) r ∧ wk c r ≠ e) → ∀ ys q, leads c set e ys s → go c set ys s = some q → okr 5 q ∧ D q = false := by
    intro D NE ys q hl hg
    have hq := (go_ok hs hl.1 hg).five hc
    obtain ⟨q2, g1, g2⟩ := hl.2
    have e1 : q2 = q := Option.some.inj (g1.symm.trans hg)
    refine ⟨hq, ?_⟩
    cases hd : D q with
    | false => rfl
    | true => exact absurd (by rw [← e1]; exact g2) (NE q hq hd).2
  intro m
  induction m with
  | zero =>
    intro i v2 v6 lab D h n w hi X S J OK NE G
    exfalso
    obtain ⟨ys, hl⟩ := ht
    obtain ⟨q, hg, hw⟩ := hl.2
    obtain ⟨hq, hqd⟩ := unset D NE ys q hl hg
    obtain ⟨g, g1, g2⟩ := G
    have := pigeon 3906 (i + 1) (fun a => if a = i then cx q else g a) (fun a ha => by
      try dsimp only
      by_cases e : a = i
      · rw [if_pos e]; exact cx_lt hq
      · rw [if_neg e]; exact (g1 a (by omega)).1) (fun a b ha hb hab => by
      have key : ∀ a, a < i → g a ≠ cx q := fun a ha hh => by
        have := (g1 a ha).2
        rw [hh, dx_cx hq, hqd] at this
        exact absurd this (by decide)
      try dsimp only at hab
      by_cases e1 : a = i
      · rw [if_pos e1] at hab
        by_cases e2 : b = i
        · omega
        · rw [if_neg e2] at hab; exact absurd hab.symm (key b (by omega))
      · rw [if_neg e1] at hab
        by_cases e2 : b = i
        · rw [if_pos e2] at hab; exact absurd hab (key a (by omega))
        · rw [if_neg e2] at hab; exact g2 a b (by omega) (by omega) hab)
    omega
  | succ m ih =>
    intro i v2 v6 lab D h n w hi X S J OK NE G
    have h1 : ¬ (3906 : Int32) ≤ nI i := nI_ge (a := i) (b := 3906) (by omega) (by decide)
    have hn : 0 < n := by
      obtain ⟨ys, hl⟩ := ht
      obtain ⟨q, hg, hw⟩ := hl.2
      obtain ⟨hq, hqd⟩ := unset D NE ys q hl hg
      obtain ⟨v, v1, v2, v3, v4⟩ := J.walks hc hs hl.1 hg hqd
      obtain ⟨j, hj, _⟩ := (S.2.2.2.2.2.2 v (v1.five hc)).mpr ⟨v3, v2⟩
      omega
    have hnl := S.n_le
    have h2 : ¬ (w.1 11 3) ≤ 0 := by rw [S.2.2.1]; exact nI_nle hn (by omega)
    obtain ⟨h3, w1, a1, a2, a3⟩ := s_takeLeast (d := d + 1) S hn
    have hh0 := S.2.2.2.1.1 0 hn
    have hu5 : okr 5 (dx 5 (h 0)) := dx_ok
    have hcu : cx (dx 5 (h 0)) = h 0 := cx_dx5 hh0
    have hM := (S.2.2.2.2.2.2 _ hu5).mp ⟨0, hn, hcu.symm⟩
    have hleast : ∀ v, okr (c 0 0) v → D v = false → lab v < far → lab (dx 5 (h 0)) ≤ lab v := by
      intro v v1 v2 v3
      have v5 := v1.five hc
      obtain ⟨j, hj, hjv⟩ := (S.2.2.2.2.2.2 v v5).mpr ⟨v3, v2⟩
      have := S.2.2.2.2.1.top j j (Nat.le_refl _) hj
      try dsimp only at this
      rw [hjv, dx_cx v5] at this
      exact this
    rw [← hcu] at a1
    generalize dx 5 (h 0) = u at *
    have hu := OK u hu5 hM.1
    obtain ⟨J2, hl18⟩ := J.step hc hs hu hM.2 hM.1 hleast
    have X1 : XS p c w1 := X.of hp (fun q h1 h2 => (a2 q (Or.inr (by omega))).1)
    have b1 := s_worksOf (d := d + 2) hp X1 hc hu
    have hwk := wk_lt hc hu.2
    by_cases hwe : wk c u = e
    · obtain ⟨xs, x1, x2, x3⟩ := J.2.1 u hu hM.1
      have hcx := cx_lt hu5
      have b2 := s_at (d := d + 4) (a := 12) (k := cx u) (w := w1) rfl (by show _ < 3906; exact hcx)
      rw [(a3.1 _ hcx).2] at b2
      try dsimp only at b2
      rw [dx_cx hu5, x3] at b2
      refine ⟨xs, w1, p_X6_nearest_23FFF_R hp h1 h2 a1 b1 (by rw [hwe]) b2, a2, ⟨x1, u, x2, hwe⟩, fun ys hl => ?_⟩
      obtain ⟨q, hg, hw⟩ := hl.2
      rw [← x3]
      exact J.least hc hs hleast hl.1 hg (unset D NE ys q hl hg).2
    · obtain ⟨h4, n4, w4, c1, c2, c3⟩ := s_goOnFrom (d := d) hp hc hset hu hl18 (fun r hr hd => by
        rcases Bool.or_eq_true _ _ ▸ hd with hd | hd
        · exact J.2.2.2.2 r u (NE r hr hd).1 hu hd hM.2 hM.1
        · rw [of_decide_eq_true hd]; exact Nat.le_refl _) X1 a3
      have X4 : XS p c w4 := X1.of hp (fun q h1 h2 => (c2 q (Or.inr (by omega))).1)
      obtain ⟨g, g1, g2⟩ := G
      obtain ⟨xs, w5, f1, f2, f3⟩ := ih (i + 1) .null (.int (nI (cx u))) (offd c set u lab 7) _ h4 n4 w4 (by omega) X4 c3 J2 (fun r hr hf => by
          rcases offd_ge (c := c) (set := set) (u := u) (lab := lab) 7 r with k1 | ⟨x, k1, k2, k3⟩
          · rw [k1] at hf; exact OK r hr hf
          · exact af_ok hu (by omega) k2) (fun r hr hd => by
          rcases Bool.or_eq_true _ _ ▸ hd with hd | hd
          · exact NE r hr hd
          · rw [of_decide_eq_true hd]; exact ⟨hu, hwe⟩)
        ⟨fun a => if a = i then cx u else g a, fun a ha => by
          try dsimp only
          by_cases e : a = i
          · have ez : (if a = i then cx u else g a) = cx u := if_pos e
            exact ⟨by rw [ez]; exact cx_lt hu5, (Bool.or_eq_true _ _).mpr (Or.inr (decide_eq_true (by rw [ez]; exact dx_cx hu5)))⟩
          · have ez : (if a = i then cx u else g a) = g a := if_neg e
            obtain ⟨k1, k2⟩ := g1 a (by omega)
            exact ⟨by rw [ez]; exact k1, (Bool.or_eq_true _ _).mpr (Or.inl (by rw [ez]; exact k2))⟩, fun a b ha hb hab => by
          have key : ∀ a, a < i → g a ≠ cx u := fun a ha hh => by
            have := (g1 a ha).2
            rw [hh, dx_cx hu5, hM.2] at this
            exact absurd this (by decide)
          try dsimp only at hab
          by_cases e1 : a = i
          · rw [if_pos e1] at hab
            by_cases e2 : b = i
            · omega
            · rw [if_neg e2] at hab; exact absurd hab.symm (key b (by omega))
          · rw [if_neg e1] at hab
            by_cases e2 : b = i
            · rw [if_pos e2] at hab; exact absurd hab (key a (by omega))
            · rw [if_neg e2] at hab; exact g2 a b (by omega) (by omega) hab⟩
      refine ⟨xs, w5, (p_X6_nearest_23FFT_L23 hp h1 h2 a1 b1 (fun hh => hwe ((nI_eq (by omega) (by omega)).mp hh)) c1).trans ?_, (a2.trans c2).trans f2, f3⟩
      rw [nI_1]
      exact f1
theorem s_nearest {e : Nat} {s : List Nat} {w : Wd} (hp : scp p) (X : XS p c w) (hc : okc c) (hset : set < 2 ^ 31) (he : e < 2 ^ 10) (hs : okr (c 0 0) s) (ht : ∃ xs, leads c set e xs s) :
    ∃ xs w2, sem (d + 6) 83 [.ref 11, .ref p, .int (nI (cx s)), .int (nI e), .int (nI set)] w = some (some (.int (nI (wX c set xs s))), w2) ∧ frm 11 15 w w2 ∧ leads c set e xs s ∧ ∀ ys, leads c set e ys s → wX c set xs s ≤ wX c set ys s := by
  have hs5 := hs.five hc
  have e1 := s_fill (d := d + 4) (a := 12) (v := 1073741824) (w := w) rfl
  have S0 : Sr (fun _ => far) (fun _ => false) (fun _ => 0) 0 (updI (filW w 12 (lenOf 12) 1073741824) 11 3 0) := by
    refine ⟨fun k hk => ⟨far_lt, ?_⟩, fun _ _ => Nat.le_refl _, rd_e, ⟨fun i hi => absurd hi (Nat.not_lt_zero _), fun i j hi => absurd hi (Nat.not_lt_zero _)⟩, fun i i1 i2 => absurd i2 (Nat.not_lt_zero _), fun i hi => absurd hi (Nat.not_lt_zero _), fun r hr => ⟨?_, fun hh => absurd hh.1 (Nat.lt_irrefl _)⟩⟩
    · rw [rd_n (by decide), filW_at _ _ _ _ (by show k < 3906; exact hk)]
      rfl
    · rintro ⟨i, hi, _⟩
      exact absurd hi (Nat.not_lt_zero _)
  obtain ⟨h2, n2, w2, g1, g2, g3⟩ := s_offer (d := d + 1) (q := s) (l := 0) S0 hs5 (by decide) (fun hd => absurd hd (by decide))
  have e2 : upLb (fun _ => far) s 0 = fun r => if r = s then 0 else far := by
    funext r
    unfold upLb
    by_cases hr : r = s
    · rw [if_pos hr, if_pos hr, Nat.min_eq_right (Nat.zero_le _)]
    · rw [if_neg hr, if_neg hr]
  rw [e2] at g3
  have f0 : frm 11 15 w (updI (filW w 12 (lenOf 12) 1073741824) 11 3 0) := by
    rw [filW_chg]
    exact (frm.chg w (by decide) (by decide)).trans (frm.upI _ (by decide) (by decide))
  have X2 : XS p c w2 := X.of hp (fun q h1 h2 => ((f0.trans g2) q (Or.inr (by omega))).1)
  obtain ⟨xs, w3, k1, k2, k3⟩ := l_nearest (d := d) hp hc hset he hs ht 3906 0 (.int (nI (cx s))) .null _ _ h2 n2 w2 (by omega) X2 g3 dij.start (fun r hr hf => by
      by_cases hrs : r = s
      · rw [hrs]; exact hs
      · try dsimp only at hf
        rw [if_neg hrs] at hf
        exact absurd hf (Nat.lt_irrefl _)) (fun r _ hd => absurd hd (by decide)) ⟨fun _ => 0, fun a ha => absurd ha (Nat.not_lt_zero _), fun a b ha => absurd ha (Nat.not_lt_zero _)⟩
  exact ⟨xs, w3, e_X6_nearest.trans ((p_X6_nearest_0_L23 hp e1 g1).trans k1), (f0.trans g2).trans k2, k3⟩
end XNEAR

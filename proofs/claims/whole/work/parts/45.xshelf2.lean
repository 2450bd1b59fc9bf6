/-! the shelf: begun anew, kept, taken back; kinds -/
def XF (p : Nat) (fr : Nat → List Nat) (w : Wd) : Prop := ∀ t : Nat, t < 4 → w.1 (p + 5) t = nI (cx (fr t))
def mixR (fr rs : Nat → List Nat) (k : Nat) : Nat → List Nat := fun j => if j < k then fr j else rs j
theorem upR_mix (fr rs : Nat → List Nat) (k : Nat) : upR (mixR fr rs k) k (fr k) = mixR fr rs (k + 1) := by
  funext j
  unfold upR mixR
  by_cases h : j = k
  · rw [if_pos h, if_pos (by omega), h]
  · rw [if_neg h]
    by_cases h2 : j < k
    · rw [if_pos h2, if_pos (by omega)]
    · rw [if_neg h2, if_neg (by omega)]
theorem mixR_0 (fr rs : Nat → List Nat) : mixR fr rs 0 = rs := by
  funext j
  unfold mixR
  rw [if_neg (Nat.not_lt_zero j)]
theorem XRo.put {rs : Nat → List Nat} {sp t : Nat} {r : List Nat} {w : Wd} (X : XRo rs sp w) : XRo (upR rs t r) sp (updI w 5 t (nI (cx r))) := by
  refine ⟨fun k hk => ?_, by rw [rd_n (by decide)]; exact X.2⟩
  unfold upR
  by_cases h : k = t
  · rw [if_pos h, h, rd_e]
  · rw [if_neg h, rd_k h]
    exact X.1 k hk
section XSH2
variable {d : Nat} {rs : Nat → List Nat} {sp : Nat} {us : List (Nat × List Nat × Nat)} {im : Nat → Option ((Nat → List Nat) × Nat)}
theorem s_firstRow {p t : Nat} {fr : Nat → List Nat} {w : Wd} (hp : scp p) (F : XF p fr w) (ht : t < 4) : sem (d + 2) 67 [.ref p, .int (nI t)] w = some (some (.int (nI (cx (fr t)))), w) := by
  have e := s_at (d := d) (a := p + 5) (k := t) (w := w) hp.c.2.2.2.2.1 (by rw [hp.l.2.2.2.2.1]; exact ht)
  rw [F t ht] at e
  exact e_X5_firstRow.trans (p_X5_firstRow_0_R hp e)
theorem l_startAs {p : Nat} {fr : Nat → List Nat} (hp : scp p) : ∀ (m k : Nat) (w : Wd), m + k = 4 → XF p fr w → XRo (mixR fr rs k) sp w → XUn us w → XIm im w →
    ∃ w2, runs (T_X7_startAs (sem (d + 2))) (2, [.ref 4, .ref p, .int (nI k)], [], w) = some (none, updI (updI (updI w2 4 1 0) 4 5 0) 4 9 0) ∧ frm 4 6 w w2 ∧ XRo (mixR fr rs 4) sp w2 ∧ XUn us w2 := by
  intro m
  induction m with
  | zero =>
    intro k w hk F R U I
    have ek : k = 4 := by omega
    subst ek
    exact ⟨w, p_X7_startAs_2T_R hp (by decide), frm.refl _ _ _, R, U⟩
  | succ m ih =>
    intro k w hk F R U I
    have h1 : ¬ (4 : Int32) ≤ nI k := nI_ge (a := k) (b := 4) (by omega) (by decide)
    have e1 := s_firstRow (d := d) hp F (t := k) (by omega)
    have e2 := s_put (d := d + 1) (a := 5) (k := k) (x := nI (cx (fr k))) (w := w) rfl (by show k < 4; omega)
    have hp5 : p + 5 ≠ 5 := by rcases hp with rfl | rfl <;> decide
    obtain ⟨w2, g1, g2, g3, g4⟩ := ih (k + 1) (updI w 5 k (nI (cx (fr k)))) (by omega) (fun t ht => by rw [rd_n hp5]; exact F t ht) (by rw [← upR_mix]; exact R.put) (by
      unfold XUn at U ⊢
      obtain ⟨u1, nx, u2, u3, u4⟩ := U
      refine ⟨by rw [rd_n (by decide)]; exact u1, nx, u2, by rw [rd_n (by decide)]; exact u3, fun i hi => ?_⟩
      rw [rd_n (by decide), rd_n (by decide), rd_n (by decide)]
      exact u4 i hi) (by
      obtain ⟨iv, i1, i2, i3⟩ := I
      refine ⟨iv, i1, by rw [rd_n (by decide)]; exact i2, fun j hj => ⟨(i3 j hj).1, fun q hq => ?_⟩⟩
      obtain ⟨z1, z2, z3⟩ := (i3 j hj).2 q hq
      exact ⟨z1, fun t ht => by rw [rd_n (by decide)]; exact z2 t ht, by rw [rd_n (by decide)]; exact z3⟩)
    refine ⟨w2, (p_X7_startAs_2F_L2 hp h1 e1 e2).trans ?_, (frm.upI w (by decide) (by decide)).trans g2, g3, g4⟩
    rw [nI_1]
    exact g1
theorem s_startAs {p : Nat} {fr : Nat → List Nat} {w : Wd} (hp : scp p) (F : XF p fr w) (X : XSh rs sp us im w) :
    ∃ w2, sem (d + 3) 91 [.ref 4, .ref p] w = some (none, w2) ∧ frm 4 6 w w2 ∧ XSh fr 0 [] (fun _ => none) w2 := by
  obtain ⟨w2, g1, g2, g3, ⟨u1, nx, u2, u3, u4⟩⟩ := l_startAs (d := d) hp 4 0 w (by omega) F (by rw [mixR_0]; exact X.1) X.2.1 X.2.2
  refine ⟨_, e_X7_startAs.trans ((p_X7_startAs_0_L2 hp).trans g1), ?_, ⟨⟨?_, ?_⟩, ⟨?_, nx, u2, ?_, ?_⟩, ⟨0, by decide, ?_, ?_⟩⟩⟩
  · exact ((g2.trans (frm.upI _ (by decide) (by decide))).trans (frm.upI _ (by decide) (by decide))).trans (frm.upI _ (by decide) (by decide))
  · intro t ht
    rw [rd_n (by decide), rd_n (by decide), rd_n (by decide)]
    have := g3.1 t ht
    unfold mixR at this
    rw [if_pos ht] at this
    exact this
  · rw [rd_k (by decide), rd_k (by decide), rd_e]; rfl
  · rw [rd_k (by decide), rd_e]; rfl
  · rw [rd_k (by decide), rd_k (by decide), rd_k (by decide)]; exact u3
  · intro i hi; exact absurd hi (Nat.not_lt_zero _)
  · rw [rd_e]; rfl
  · intro j hj
    exact ⟨fun _ => Nat.zero_testBit j, fun q hq => absurd hq (by simp)⟩
/-- the images but for one -/
def XIx (j : Nat) (im : Nat → Option ((Nat → List Nat) × Nat)) (w : Wd) : Prop :=
  ∃ iv, iv < 4 ∧ w.1 4 9 = nI iv ∧ ∀ z : Nat, z < 2 → z ≠ j → (im z = none → iv.testBit z = false) ∧ ∀ q, im z = some q → iv.testBit z = true ∧ (∀ t : Nat, t < 4 → w.1 9 (z * 4 + t) = nI (cx (q.1 t))) ∧ w.1 10 z = nI q.2
def upM (im : Nat → Option ((Nat → List Nat) × Nat)) (j : Nat) (q : (Nat → List Nat) × Nat) : Nat → Option ((Nat → List Nat) × Nat) := fun z => if z = j then some q else im z
theorem upM_at (im : Nat → Option ((Nat → List Nat) × Nat)) (j : Nat) (q : (Nat → List Nat) × Nat) : upM im j q j = some q := if_pos rfl
theorem upM_ne (im : Nat → Option ((Nat → List Nat) × Nat)) {j z : Nat} (q : (Nat → List Nat) × Nat) (h : z ≠ j) : upM im j q z = im z := if_neg h
theorem XUn.of {w w2 : Wd} (h : ∀ q, 4 ≤ q → q < 9 → q ≠ 5 → w2.1 q = w.1 q) (U : XUn us w) : XUn us w2 := by
  unfold XUn at *
  rw [h 4 (by decide) (by decide) (by decide), h 6 (by decide) (by decide) (by decide), h 7 (by decide) (by decide) (by decide), h 8 (by decide) (by decide) (by decide)]
  exact U
theorem l_keepImage {j : Nat} (hj : j < 2) : ∀ (m k : Nat) (w : Wd), m + k = 4 → XRo rs sp w → XUn us w → XIx j im w → (∀ t : Nat, t < k → w.1 9 (j * 4 + t) = nI (cx (rs t))) →
    ∃ w2, runs (T_X7_keepImage (sem (d + 2))) (2, [.ref 4, .int (nI j), .int (nI k)], [], w) = some (none, w2) ∧ frm 4 11 w w2 ∧ XSh rs sp us (upM im j (rs, sp)) w2 := by
  intro m
  induction m with
  | zero =>
    intro k w hk X U I K
    have ek : k = 4 := by omega
    subst ek
    obtain ⟨X1, X2⟩ := X
    obtain ⟨X3, nx, X4, X5, X6⟩ := U
    obtain ⟨iv, X7, X8, X9⟩ := I
    have e2 := s_put (d := d + 1) (a := 10) (k := j) (x := w.1 4 1) (w := w) rfl (by show j < 2; omega)
    have l2 : 2 ^ j < 2 ^ 2 := Nat.pow_lt_pow_right (by decide) hj
    refine ⟨_, p_X7_keepImage_2T_R (by decide) e2, (frm.upI _ (by decide) (by decide)).trans (frm.upI _ (by decide) (by decide)), ⟨⟨?_, ?_⟩, ⟨?_, nx, X4, ?_, ?_⟩, ⟨iv ||| 2 ^ j, Nat.or_lt_two_pow (n := 2) X7 l2, ?_, ?_⟩⟩⟩
    · intro t ht
      rw [rd_n (by decide), rd_n (by decide)]
      exact X1 t ht
    · rw [rd_k (by decide), rd_n (by decide)]; exact X2
    · rw [rd_k (by decide), rd_n (by decide)]; exact X3
    · rw [rd_k (by decide), rd_n (by decide)]; exact X5
    · intro i hi
      rw [rd_n (by decide), rd_n (by decide), rd_n (by decide), rd_n (by decide), rd_n (by decide), rd_n (by decide)]
      exact X6 i hi
    · rw [rd_e, rd_n (by decide), X8, i_pow (by omega), i_or]
    · intro z hz
      by_cases hzj : z = j
      · subst hzj
        rw [upM_at]
        refine ⟨fun h => absurd h (by simp), fun q hq => ?_⟩
        have hq := Option.some.inj hq
        subst hq
        refine ⟨by rw [Nat.testBit_or, Nat.testBit_two_pow_self, Bool.or_true], fun t ht => ?_, ?_⟩
        · rw [rd_n (by decide), rd_n (by decide)]
          exact K t ht
        · rw [rd_n (by decide), rd_e, X2]
      · have hb : (iv ||| 2 ^ j).testBit z = iv.testBit z := by rw [Nat.testBit_or, Nat.testBit_two_pow_of_ne (fun h => hzj h.symm), Bool.or_false]
        rw [upM_ne _ _ hzj, hb]
        refine ⟨(X9 z hz hzj).1, fun q hq => ?_⟩
        obtain ⟨z1, z2, z3⟩ := (X9 z hz hzj).2 q hq
        refine ⟨z1, fun t ht => ?_, ?_⟩
        · rw [rd_n (by decide), rd_n (by decide)]
          exact z2 t ht
        · rw [rd_n (by decide), rd_k hzj]
          exact z3
  | succ m ih =>
    intro k w hk X U I K
    have h1 : ¬ (4 : Int32) ≤ nI k := nI_ge (a := k) (b := 4) (by omega) (by decide)
    have e1 := s_rowOf (d := d) (t := k) X (by omega)
    have e3 : nI j * 4 + nI k = nI (j * 4 + k) := by
      have k1 : nI j * 4 = nI (j * 4) := pk_mul j 4
      rw [k1, nI_add]
    have e2 := s_put (d := d + 1) (a := 9) (k := j * 4 + k) (x := nI (cx (rs k))) (w := w) rfl (by show j * 4 + k < 8; omega)
    rw [← e3] at e2
    obtain ⟨w2, g1, g2, g3⟩ := ih (k + 1) (updI w 9 (j * 4 + k) (nI (cx (rs k)))) (by omega) ⟨fun t ht => by rw [rd_n (by decide)]; exact X.1 t ht, by rw [rd_n (by decide)]; exact X.2⟩
      (U.of (fun q h2 h3 h4 => if_neg (by omega)))
      (by
        obtain ⟨iv, i1, i2, i3⟩ := I
        refine ⟨iv, i1, by rw [rd_n (by decide)]; exact i2, fun z hz hzj => ⟨(i3 z hz hzj).1, fun q hq => ?_⟩⟩
        obtain ⟨z1, z2, z3⟩ := (i3 z hz hzj).2 q hq
        exact ⟨z1, fun t ht => by rw [rd_k (by omega)]; exact z2 t ht, by rw [rd_n (by decide)]; exact z3⟩)
      (by
        intro t ht
        by_cases htk : t = k
        · rw [htk, rd_e]
        · rw [rd_k (by omega)]
          exact K t (by omega))
    refine ⟨w2, (p_X7_keepImage_2F_L2 h1 e1 e2).trans ?_, (frm.upI w (by decide) (by decide)).trans g2, g3⟩
    rw [nI_1]
    exact g1
theorem s_keepImage {j : Nat} {w : Wd} (hj : j < 2) (X : XSh rs sp us im w) :
    ∃ w2, sem (d + 3) 100 [.ref 4, .int (nI j)] w = some (none, w2) ∧ frm 4 11 w w2 ∧ XSh rs sp us (upM im j (rs, sp)) w2 := by
  obtain ⟨w2, g1, g2, g3⟩ := l_keepImage (d := d) (im := im) hj 4 0 w (by omega) X.1 X.2.1 (by
    obtain ⟨iv, i1, i2, i3⟩ := X.2.2
    exact ⟨iv, i1, i2, fun z hz _ => i3 z hz⟩) (fun t h => absurd h (Nat.not_lt_zero _))
  exact ⟨w2, e_X7_keepImage.trans (p_X7_keepImage_0_L2.trans g1), g2, g3⟩
theorem l_becomeImage {j : Nat} {q : (Nat → List Nat) × Nat} (hj : j < 2) (hq : im j = some q) : ∀ (m k : Nat) (w : Wd), m + k = 4 → XRo (mixR q.1 rs k) sp w → XUn us w → XIm im w →
    ∃ w2, runs (T_X7_becomeImage (sem (d + 2))) (15, [.ref 4, .int (nI j), .int (nI k)], [], w) = some (some (.int 1), w2) ∧ frm 4 6 w w2 ∧ XSh q.1 q.2 [] im w2 := by
  intro m
  induction m with
  | zero =>
    intro k w hk R U I
    have ek : k = 4 := by omega
    subst ek
    obtain ⟨X1, X2⟩ := R
    obtain ⟨X3, nx, X4, X5, X6⟩ := U
    obtain ⟨iv, X7, X8, X9⟩ := I
    have e2 := s_at (d := d + 1) (a := 10) (k := j) (w := w) rfl (by show j < 2; omega)
    rw [((X9 j hj).2 q hq).2.2] at e2
    refine ⟨_, p_X7_becomeImage_15T_R (by decide) e2, (frm.upI _ (by decide) (by decide)).trans (frm.upI _ (by decide) (by decide)), ⟨⟨?_, ?_⟩, ⟨?_, nx, X4, ?_, ?_⟩, ⟨iv, X7, ?_, ?_⟩⟩⟩
    · intro t ht
      rw [rd_n (by decide), rd_n (by decide)]
      have := X1 t ht
      unfold mixR at this
      rw [if_pos ht] at this
      exact this
    · rw [rd_k (by decide), rd_e]
    · rw [rd_e]; rfl
    · rw [rd_k (by decide), rd_k (by decide)]; exact X5
    · intro i hi; exact absurd hi (Nat.not_lt_zero _)
    · rw [rd_k (by decide), rd_k (by decide)]; exact X8
    · intro z hz
      refine ⟨(X9 z hz).1, fun q2 hq2 => ?_⟩
      obtain ⟨z1, z2, z3⟩ := (X9 z hz).2 q2 hq2
      refine ⟨z1, fun t ht => ?_, ?_⟩
      · rw [rd_n (by decide), rd_n (by decide)]
        exact z2 t ht
      · rw [rd_n (by decide), rd_n (by decide)]
        exact z3
  | succ m ih =>
    intro k w hk R U I
    have h1 : ¬ (4 : Int32) ≤ nI k := nI_ge (a := k) (b := 4) (by omega) (by decide)
    have e3 : nI j * 4 + nI k = nI (j * 4 + k) := by
      have k1 : nI j * 4 = nI (j * 4) := pk_mul j 4
      rw [k1, nI_add]
    have e1 := s_at (d := d + 1) (a := 9) (k := j * 4 + k) (w := w) rfl (by show j * 4 + k < 8; omega)
    have e4 : w.1 9 (j * 4 + k) = nI (cx (q.1 k)) := by
      obtain ⟨iv, X7, X8, X9⟩ := I
      exact ((X9 j hj).2 q hq).2.1 k (by omega)
    rw [e4, ← e3] at e1
    have e2 := s_put (d := d + 1) (a := 5) (k := k) (x := nI (cx (q.1 k))) (w := w) rfl (by show k < 4; omega)
    obtain ⟨w2, g1, g2, g3⟩ := ih (k + 1) (updI w 5 k (nI (cx (q.1 k)))) (by omega) (by rw [← upR_mix]; exact R.put)
      (U.of (fun q h2 h3 h4 => if_neg (by omega)))
      (by
        obtain ⟨iv, i1, i2, i3⟩ := I
        refine ⟨iv, i1, by rw [rd_n (by decide)]; exact i2, fun z hz => ⟨(i3 z hz).1, fun q hq => ?_⟩⟩
        obtain ⟨z1, z2, z3⟩ := (i3 z hz).2 q hq
        exact ⟨z1, fun t ht => by rw [rd_n (by decide)]; exact z2 t ht, by rw [rd_n (by decide)]; exact z3⟩)
    refine ⟨w2, (p_X7_becomeImage_15F_L15 h1 e1 e2).trans ?_, (frm.upI w (by decide) (by decide)).trans g2, g3⟩
    rw [nI_1]
    exact g1
theorem s_becomeImage {j : Nat} {q : (Nat → List Nat) × Nat} {w : Wd} (hj : j < 2) (hq : im j = some q) (X : XSh rs sp us im w) :
    ∃ w2, sem (d + 3) 101 [.ref 4, .int (nI j)] w = some (some (.int 1), w2) ∧ frm 4 6 w w2 ∧ XSh q.1 q.2 [] im w2 := by
  obtain ⟨w2, g1, g2, g3⟩ := l_becomeImage (d := d) (rs := rs) (us := us) hj hq 4 0 w (by omega) (by rw [mixR_0]; exact X.1) X.2.1 X.2.2
  obtain ⟨iv, i1, i2, i3⟩ := X.2.2
  have hb := ((i3 j hj).2 q hq).1
  exact ⟨w2, e_X7_becomeImage.trans ((p_X7_becomeImage_0T_L15 (by rw [i2, i_bit0 (by omega) (by omega), hb]; decide)).trans g1), g2, g3⟩
theorem s_becomeImage0 {j : Nat} {w : Wd} (hj : j < 2) (hq : im j = none) (X : XSh rs sp us im w) : sem (d + 1) 101 [.ref 4, .int (nI j)] w = some (some (.int 0), w) := by
  obtain ⟨iv, i1, i2, i3⟩ := X.2.2
  have hb := (i3 j hj).1 hq
  exact e_X7_becomeImage.trans (p_X7_becomeImage_0F_R (by rw [i2]; exact (i_bit0 (by omega) (by omega)).mpr hb))
/-! kinds: what a spell is worth -/
def addT (w : Wd) (n : Int64) : Wd := updL w 19 0 (w.2 19 0 + n)
theorem addT_1 (w : Wd) (n : Int64) : (addT w n).1 = w.1 := rfl
theorem addT_2 (w : Wd) (n m : Int64) : addT (addT w n) m = addT w (n + m) := by
  unfold addT updL
  dsimp only
  congr 1
  funext q
  by_cases h : q = 19
  · rw [if_pos h, if_pos h]
    funext k
    unfold vp_updL
    by_cases hk : k = 0
    · rw [if_pos hk, if_pos hk, if_pos rfl, if_pos rfl, Int64.add_assoc]
    · rw [if_neg hk, if_neg hk, if_pos rfl]
      exact if_neg hk
  · rw [if_neg h, if_neg h, if_neg h]
/-- what a spell is worth as if of a kind -/
def ratI (c : Nat → Nat → Nat) (rs : Nat → List Nat) (k s : Nat) : Int32 :=
  if k = 1 then nI (c 1 s) + nI (c 3 s) else if k = 2 then nI (c 1 s) - nI (c 4 s) else if k = 3 then 2 * (nI (c 1 s) + nI (c 3 s))
  else if k = 4 then nI (c 1 s) - nI (c 4 s) + nI (sayN c s (c 0 2)) else if k = 5 then nI (c 1 s) + nI (witN s rs 4) else nI (c 1 s)
def ratT (k : Nat) : Int64 := if k = 1 then 11 else if k = 2 then 101 else if k = 3 then 1011 else if k = 4 then 10101 else if k = 5 then 100001 else 1
section XKI
variable {p s : Nat} {c : Nat → Nat → Nat} {w : Wd}
theorem XS.addT {n : Int64} (X : XS p c w) : XS p c (addT w n) := X
theorem XRo.addT {n : Int64} (X : XRo rs sp w) : XRo rs sp (addT w n) := X
theorem s_asSpell (hp : scp p) (X : XS p c w) (hc : okc c) (hs : s < c 0 0) : sem (d + 3) 13 [.ref 19, .ref p, .int (nI s)] w = some (some (.int (nI (c 1 s))), addT w 1) :=
  e_X2_asSpell.trans (p_X2_asSpell_0_R hp (s_effectOf hp (X.addT (n := 1)) hc hs))
theorem s_asCharm (hp : scp p) (X : XS p c w) (hc : okc c) (hs : s < c 0 0) : sem (d + 4) 14 [.ref 19, .ref p, .int (nI s)] w = some (some (.int (nI (c 1 s) + nI (c 3 s))), addT w 11) := by
  have e1 := s_asSpell (d := d) hp (X.addT (n := 10)) hc hs
  rw [addT_2] at e1
  exact e_X2_asCharm.trans (p_X2_asCharm_0_R hp e1 (s_layCost hp (X.addT (n := 10 + 1)) hc hs))
theorem s_asCurse (hp : scp p) (X : XS p c w) (hc : okc c) (hs : s < c 0 0) : sem (d + 4) 15 [.ref 19, .ref p, .int (nI s)] w = some (some (.int (nI (c 1 s) - nI (c 4 s))), addT w 101) := by
  have e1 := s_asSpell (d := d) hp (X.addT (n := 100)) hc hs
  rw [addT_2] at e1
  exact e_X2_asCurse.trans (p_X2_asCurse_0_R hp e1 (s_liftCost hp (X.addT (n := 100 + 1)) hc hs))
theorem s_asFlame (hp : scp p) (X : XS p c w) (hc : okc c) (hs : s < c 0 0) : sem (d + 5) 16 [.ref 19, .ref p, .int (nI s)] w = some (some (.int (2 * (nI (c 1 s) + nI (c 3 s)))), addT w 1011) := by
  have e1 := s_asCharm (d := d) hp (X.addT (n := 1000)) hc hs
  rw [addT_2] at e1
  exact e_X2_asFlame.trans (p_X2_asFlame_0_R hp e1)
theorem s_asFrost (hp : scp p) (X : XS p c w) (hc : okc c) (hs : s < c 0 0) : sem (d + 5) 17 [.ref 19, .ref p, .int (nI s)] w = some (some (.int (nI (c 1 s) - nI (c 4 s) + nI (sayN c s (c 0 2)))), addT w 10101) := by
  have e1 := s_asCurse (d := d) hp (X.addT (n := 10000)) hc hs
  rw [addT_2] at e1
  have h5 := hc.1
  exact e_X2_asFrost.trans (p_X2_asFrost_0_R hp e1 (s_sayersOf hp (X.addT (n := 10000 + 101)) hc (by omega)))
theorem s_asWax (hp : scp p) (X : XS p c w) (hc : okc c) (hs : s < c 0 0) (R : XRo rs sp w) (hr : ∀ t : Nat, t < 4 → okr 5 (rs t)) : sem (d + 5) 18 [.ref 19, .ref p, .ref 4, .int (nI s)] w = some (some (.int (nI (c 1 s) + nI (witN s rs 4))), addT w 100001) := by
  have e1 := s_asSpell (d := d + 1) hp (X.addT (n := 100000)) hc hs
  rw [addT_2] at e1
  have h5 := hc.1
  exact e_X2_asWax.trans (p_X2_asWax_0_R hp e1 (s_layersWith (R.addT (n := 100000 + 1)) hr (by omega)))
theorem s_rating {k : Nat} (hp : scp p) (X : XS p c w) (hc : okc c) (hs : s < c 0 0) (R : XRo rs sp w) (hr : ∀ t : Nat, t < 4 → okr 5 (rs t)) (hk : k < 6) : sem (d + 6) 12 [.ref 19, .int (nI k), .ref p, .ref 4, .int (nI s)] w = some (some (.int (ratI c rs k s)), addT w (ratT k)) := by
  refine e_X2_rating.trans ?_
  rcases (by omega : k = 0 ∨ k = 1 ∨ k = 2 ∨ k = 3 ∨ k = 4 ∨ k = 5) with rfl | rfl | rfl | rfl | rfl | rfl
  · exact p_X2_rating_0Sd_R hp (by decide) (by decide) (by decide) (by decide) (by decide) (s_asSpell hp X hc hs)
  · exact p_X2_rating_0S1_R hp rfl (s_asCharm hp X hc hs)
  · exact p_X2_rating_0S2_R hp rfl (s_asCurse hp X hc hs)
  · exact p_X2_rating_0S3_R hp rfl (s_asFlame hp X hc hs)
  · exact p_X2_rating_0S4_R hp rfl (s_asFrost hp X hc hs)
  · exact p_X2_rating_0S5_R hp rfl (s_asWax hp X hc hs R hr)
end XKI
end XSH2

/-! both sides' state; when both sides agree -/
def XR (p : Nat) (c : Nat → Nat → Nat) (rs : Nat → List Nat) (sp : Nat) (us : List (Nat × List Nat × Nat)) (im : Nat → Option ((Nat → List Nat) × Nat)) (ht : List (Nat × Nat)) (bt : Nat → Nat) (n : Nat) (tr : Int64) (w : Wd) : Prop :=
  XS p c w ∧ XSh rs sp us im w ∧ XHt ht w ∧ XT bt n w ∧ w.2 19 0 = tr ∧ w.1 0 5 = nI p ∧ w.1 0 6 = nI (47 - p)
def MRo (rs : Nat → List Nat) (sp : Nat) (w : Wd) : Prop := (∀ t, t < 4 → w.1 40 t = nI (cm (rs t))) ∧ w.1 40 4 = nI sp
def MUn (us : List (Nat × List Nat × Nat)) (w : Wd) : Prop := w.1 34 23 = nI us.length ∧ ∀ (i : Nat) (h : i < us.length), w.1 43 (3 * (us.length - 1 - i)) = nI (us[i]).1 ∧ w.1 43 (3 * (us.length - 1 - i) + 1) = nI (cm (us[i]).2.1) ∧ w.1 43 (3 * (us.length - 1 - i) + 2) = nI (us[i]).2.2
def MIm (im : Nat → Option ((Nat → List Nat) × Nat)) (w : Wd) : Prop := ∀ j, j < 2 → (im j = none → w.1 42 j = 0) ∧ ∀ q, im j = some q → w.1 42 j = 1 ∧ (∀ t, t < 4 → w.1 41 (5 * j + t) = nI (cm (q.1 t))) ∧ w.1 41 (5 * j + 4) = nI q.2
def MR (c : Nat → Nat → Nat) (rs : Nat → List Nat) (sp : Nat) (us : List (Nat × List Nat × Nat)) (im : Nat → Option ((Nat → List Nat) × Nat)) (ht : List (Nat × Nat)) (bt : Nat → Nat) (n : Nat) (tr : Int64) (w : Wd) : Prop :=
  MS c w ∧ MRo rs sp w ∧ MUn us w ∧ MIm im w ∧ MHt ht w ∧ MT bt n w ∧ w.2 34 1 = tr ∧ MCa c w ∧ MVZ c w
def okZ (c : Nat → Nat → Nat) (rs : Nat → List Nat) (us : List (Nat × List Nat × Nat)) (im : Nat → Option ((Nat → List Nat) × Nat)) (ht : List (Nat × Nat)) (bt : Nat → Nat) (n : Nat) : Prop :=
  okc c ∧ oks (c 0 0) rs us im ∧ (∀ t, c 0 1 ≤ t → t < 4 → rs t = []) ∧ (∀ u ∈ us, u.1 < c 0 1) ∧ (∀ (j : Nat) (q : (Nat → List Nat) × Nat), im j = some q → ∀ t, c 0 1 ≤ t → t < 4 → q.1 t = []) ∧ okh ht ∧ okt bt n
def Jn (w : Wd) : Prop := ∃ p c rs sp us im ht bt n tr, scp p ∧ okZ c rs us im ht bt n ∧ XR p c rs sp us im ht bt n tr w ∧ MR c rs sp us im ht bt n tr w
def agr (kx km : Nat) (ax am : List Value) (w : Wd) : Prop := ∃ (v : Int32) (w2 w3 : Wd), sem 40 kx ax w = some (some (.int v), w2) ∧ sem 40 km am w2 = some (some (.int v), w3) ∧ Jn w3
def agrL (kx km : Nat) (ax am : List Value) (w : Wd) : Prop := ∃ (v : Int64) (w2 w3 : Wd), sem 40 kx ax w = some (some (.long v), w2) ∧ sem 40 km am w2 = some (some (.long v), w3) ∧ Jn w3
/-- scratch of the class, of the reference -/
def xch (w w2 : Wd) : Prop := ∀ q, q < 11 ∨ (14 < q ∧ q ≠ 18) → w2.1 q = w.1 q ∧ w2.2 q = w.2 q
def mch (w w2 : Wd) : Prop := (∀ q, q ≠ 34 → q ≠ 46 → (q < 48 ∨ 52 < q) → w2.1 q = w.1 q) ∧ (∀ j, j ≠ 0 → j ≠ 30 → w2.1 34 j = w.1 34 j) ∧ w2.2 = w.2
theorem xch.refl (w : Wd) : xch w w := fun _ _ => ⟨rfl, rfl⟩
theorem xch.trans {w w2 w3 : Wd} (a : xch w w2) (b : xch w2 w3) : xch w w3 := fun q h => ⟨(b q h).1.trans (a q h).1, (b q h).2.trans (a q h).2⟩
theorem mch.refl (w : Wd) : mch w w := ⟨fun _ _ _ _ => rfl, fun _ _ _ => rfl, rfl⟩
theorem mch.trans {w w2 w3 : Wd} (a : mch w w2) (b : mch w2 w3) : mch w w3 := ⟨fun q h1 h2 h3 => (b.1 q h1 h2 h3).trans (a.1 q h1 h2 h3), fun j h1 h2 => (b.2.1 j h1 h2).trans (a.2.1 j h1 h2), b.2.2.trans a.2.2⟩
theorem cch.mch {w w2 : Wd} (h : cch w w2) : mch w w2 := ⟨fun q h1 _ h3 => h.1 q h1 (by omega), fun j _ h2 => h.2.1 j h2, h.2.2⟩
theorem wch.mch {w w2 : Wd} (h : wch w w2) : mch w w2 := ⟨fun q h1 h2 h3 => h.1 q h1 h2 (by omega), fun j _ h2 => h.2.1 j h2, h.2.2⟩
theorem mch.thr (w : Wd) : mch w (updI w 34 0 0) := ⟨fun q h1 _ _ => if_neg h1, fun j h1 _ => rd_k h1, rfl⟩
theorem mch.scr (w : Wd) {a k : Nat} (x : Int32) (h : a = 46 ∨ (48 ≤ a ∧ a ≤ 52)) : mch w (updI w a k x) := ⟨fun q h1 h2 h3 => if_neg (by omega), fun j _ _ => rd_n (by omega), rfl⟩
section JST
variable {p : Nat} {c : Nat → Nat → Nat} {rs : Nat → List Nat} {sp : Nat} {us : List (Nat × List Nat × Nat)} {im : Nat → Option ((Nat → List Nat) × Nat)} {ht : List (Nat × Nat)} {bt : Nat → Nat} {n : Nat} {tr : Int64} {w w2 : Wd}
theorem MCa.thr (C : MCa c w) : MCa c (updI w 34 0 0) := by
  unfold MCa at *
  rw [rd_k (by decide)]
  rcases C with C | ⟨set, c1, c2, c3⟩
  · exact Or.inl C
  · exact Or.inr ⟨set, c1, c2, fun j hj => by rw [rd_n (by decide)]; exact c3 j hj⟩
theorem MR.mch (M : MR c rs sp us im ht bt n tr w) (h : mch w w2) (C : MCa c w2) : MR c rs sp us im ht bt n tr w2 := by
  obtain ⟨h1, h2, h3⟩ := h
  obtain ⟨m1, m2, m3, m4, m5, m6, m7, m8, m9⟩ := M
  refine ⟨?_, ?_, ?_, ?_, ?_, ?_, by rw [h3]; exact m7, C, ?_⟩
  · unfold MS at *
    rw [h2 13 (by decide) (by decide), h2 14 (by decide) (by decide), h2 15 (by decide) (by decide), h1 39 (by decide) (by decide) (by decide), h1 36 (by decide) (by decide) (by decide), h1 38 (by decide) (by decide) (by decide)]
    exact m1
  · unfold MRo at *
    rw [h1 40 (by decide) (by decide) (by decide)]
    exact m2
  · unfold MUn at *
    rw [h2 23 (by decide) (by decide), h1 43 (by decide) (by decide) (by decide)]
    exact m3
  · unfold MIm at *
    rw [h1 41 (by decide) (by decide) (by decide), h1 42 (by decide) (by decide) (by decide)]
    exact m4
  · unfold MHt at *
    rw [h2 26 (by decide) (by decide), h1 44 (by decide) (by decide) (by decide), h1 45 (by decide) (by decide) (by decide)]
    exact m5
  · unfold MT at *
    rw [h2 3 (by decide) (by decide), h1 35 (by decide) (by decide) (by decide)]
    exact m6
  · unfold MVZ MV at *
    rw [h1 47 (by decide) (by decide) (by decide)]
    exact m9
theorem MR.thr (M : MR c rs sp us im ht bt n tr w) : MR c rs sp us im ht bt n tr (updI w 34 0 0) := M.mch (mch.thr w) M.2.2.2.2.2.2.2.1.thr
theorem MR.same (M : MR c rs sp us im ht bt n tr w) (h : ∀ q, 34 ≤ q → w2.1 q = w.1 q ∧ w2.2 q = w.2 q) : MR c rs sp us im ht bt n tr w2 := by
  unfold MR MS MRo MUn MIm MHt MT MCa MVZ MV at *
  rw [(h 34 (by decide)).1, (h 34 (by decide)).2, (h 35 (by decide)).1, (h 36 (by decide)).1, (h 38 (by decide)).1, (h 39 (by decide)).1, (h 40 (by decide)).1, (h 41 (by decide)).1, (h 42 (by decide)).1, (h 43 (by decide)).1, (h 44 (by decide)).1, (h 45 (by decide)).1, (h 47 (by decide)).1, (h 48 (by decide)).1]
  exact M
theorem XR.same (hp : scp p) (X : XR p c rs sp us im ht bt n tr w) (h : ∀ q, q < 34 → w2.1 q = w.1 q ∧ w2.2 q = w.2 q) : XR p c rs sp us im ht bt n tr w2 := by
  obtain ⟨x1, x2, x3, x4, x5, x6, x7⟩ := X
  refine ⟨x1.of hp (fun q _ h2 => (h q h2).1), x2.of (fun q _ h2 => (h q (by omega)).1), ?_, ?_, ?_, ?_, ?_⟩
  · unfold XHt at *
    rw [(h 15 (by decide)).1, (h 16 (by decide)).1, (h 17 (by decide)).1]
    exact x3
  · unfold XT at *
    rw [(h 1 (by decide)).1, (h 2 (by decide)).1]
    exact x4
  · rw [(h 19 (by decide)).2]; exact x5
  · rw [(h 0 (by decide)).1]; exact x6
  · rw [(h 0 (by decide)).1]; exact x7
theorem XR.xch (hp : scp p) (X : XR p c rs sp us im ht bt n tr w) (h : xch w w2) : XR p c rs sp us im ht bt n tr w2 := by
  obtain ⟨x1, x2, x3, x4, x5, x6, x7⟩ := X
  refine ⟨x1.of hp (fun q h1 _ => (h q (by omega)).1), x2.of (fun q _ h2 => (h q (by omega)).1), ?_, ?_, ?_, ?_, ?_⟩
  · unfold XHt at *
    rw [(h 15 (by decide)).1, (h 16 (by decide)).1, (h 17 (by decide)).1]
    exact x3
  · unfold XT at *
    rw [(h 1 (by decide)).1, (h 2 (by decide)).1]
    exact x4
  · rw [(h 19 (by decide)).2]; exact x5
  · rw [(h 0 (by decide)).1]; exact x6
  · rw [(h 0 (by decide)).1]; exact x7
theorem agr_q {kx km : Nat} {ax am : List Value} {v : Int32} (hp : scp p) (ok : okZ c rs us im ht bt n) (X : XR p c rs sp us im ht bt n tr w) (M : MR c rs sp us im ht bt n tr w) (hx : sem 40 kx ax w = some (some (.int v), w2)) (fx : xch w w2)
    (hm : ∀ w', MR c rs sp us im ht bt n tr w' → ∃ w3, sem 40 km am w' = some (some (.int v), w3) ∧ mch w' w3 ∧ MCa c w3) : agr kx km ax am w := by
  have M2 : MR c rs sp us im ht bt n tr w2 := M.same (fun q hq => fx q (by omega))
  obtain ⟨w3, a1, a2, a3⟩ := hm w2 M2
  exact ⟨v, w2, w3, hx, a1, p, c, rs, sp, us, im, ht, bt, n, tr, hp, ok, (X.xch hp fx).same hp (fun q hq => ⟨a2.1 q (by omega) (by omega) (by omega), by rw [a2.2.2]⟩), M2.mch a2 a3⟩
theorem agr_qL {kx km : Nat} {ax am : List Value} {v : Int64} (hp : scp p) (ok : okZ c rs us im ht bt n) (X : XR p c rs sp us im ht bt n tr w) (M : MR c rs sp us im ht bt n tr w) (hx : sem 40 kx ax w = some (some (.long v), w2)) (fx : xch w w2)
    (hm : ∀ w', MR c rs sp us im ht bt n tr w' → ∃ w3, sem 40 km am w' = some (some (.long v), w3) ∧ mch w' w3 ∧ MCa c w3) : agrL kx km ax am w := by
  have M2 : MR c rs sp us im ht bt n tr w2 := M.same (fun q hq => fx q (by omega))
  obtain ⟨w3, a1, a2, a3⟩ := hm w2 M2
  exact ⟨v, w2, w3, hx, a1, p, c, rs, sp, us, im, ht, bt, n, tr, hp, ok, (X.xch hp fx).same hp (fun q hq => ⟨a2.1 q (by omega) (by omega) (by omega), by rw [a2.2.2]⟩), M2.mch a2 a3⟩
theorem agr_s {kx km : Nat} {ax am : List Value} {v : Int32} {p2 : Nat} {c2 : Nat → Nat → Nat} {rs2 : Nat → List Nat} {sp2 : Nat} {us2 : List (Nat × List Nat × Nat)} {im2 : Nat → Option ((Nat → List Nat) × Nat)} {ht2 : List (Nat × Nat)} {bt2 : Nat → Nat} {n2 : Nat} {tr2 : Int64} (hp2 : scp p2) (ok2 : okZ c2 rs2 us2 im2 ht2 bt2 n2) (M : MR c rs sp us im ht bt n tr w) (hx : sem 40 kx ax w = some (some (.int v), w2)) (fx : ∀ q, 34 ≤ q → w2.1 q = w.1 q ∧ w2.2 q = w.2 q) (X2 : XR p2 c2 rs2 sp2 us2 im2 ht2 bt2 n2 tr2 w2)
    (hm : ∀ w', MR c rs sp us im ht bt n tr w' → ∃ w3, sem 40 km am w' = some (some (.int v), w3) ∧ (∀ q, q < 34 → w3.1 q = w'.1 q ∧ w3.2 q = w'.2 q) ∧ MR c2 rs2 sp2 us2 im2 ht2 bt2 n2 tr2 w3) : agr kx km ax am w := by
  obtain ⟨w3, a1, a2, a3⟩ := hm w2 (M.same fx)
  exact ⟨v, w2, w3, hx, a1, p2, c2, rs2, sp2, us2, im2, ht2, bt2, n2, tr2, hp2, ok2, X2.same hp2 a2, a3⟩
theorem in_cs {x : Int32} {N : Nat} (hN : N < 2 ^ 31) : (∃ t, t < N ∧ x = nI t) ∨ ¬ (¬ x < 0 ∧ x < nI N) := by
  rcases i_cases x with h | ⟨t, ht, rfl⟩
  · exact Or.inr (fun g => g.1 h)
  · by_cases h : t < N
    · exact Or.inl ⟨t, h, rfl⟩
    · exact Or.inr (fun g => nI_nlt (by omega) ht g.2)
theorem rng {s N : Nat} (hs : s < N) (hN : N < 2 ^ 31) : ¬ nI s < 0 ∧ nI s < nI N := ⟨nI_pos (by omega), nI_lt hs hN⟩

theorem x_isSpell1 {d s : Nat} (hp : scp p) (X : XS p c w) (hc : okc c) (hs : s < c 0 0) : sem (d + 1) 59 [.ref p, .int (nI s)] w = some (some (.int 1), w) := by
  have h5 := hc.1
  have e := s_isSpell (d := d) (p := p) (n := c 0 0) (s := nI s) (w := w) hp X.1 (by omega)
  rw [if_pos (rng hs (by omega))] at e
  exact e
theorem x_isSpell0 {d : Nat} {x : Int32} (hp : scp p) (X : XS p c w) (hc : okc c) (hs : ¬ (¬ x < 0 ∧ x < nI (c 0 0))) : sem (d + 1) 59 [.ref p, .int x] w = some (some (.int 0), w) := by
  have h5 := hc.1
  have e := s_isSpell (d := d) (p := p) (n := c 0 0) (s := x) (w := w) hp X.1 (by omega)
  rw [if_neg hs] at e
  exact e
theorem m_isSpell1 {d s : Nat} (M : MS c w) (hc : okc c) (hs : s < c 0 0) : sem (d + 2) 151 [.ref 34, .int (nI s)] w = some (some (.int 1), w) := by
  have h5 := hc.1
  have e := m_isSpell (d := d) (x := nI s) M hc
  rw [if_pos (rng hs (by omega))] at e
  exact e
theorem m_isSpell0 {d : Nat} {x : Int32} (M : MS c w) (hc : okc c) (hs : ¬ (¬ x < 0 ∧ x < nI (c 0 0))) : sem (d + 2) 151 [.ref 34, .int x] w = some (some (.int 0), w) := by
  have e := m_isSpell (d := d) (x := x) M hc
  rw [if_neg hs] at e
  exact e
theorem x_isThing1 {d s : Nat} (hp : scp p) (X : XS p c w) (hc : okc c) (hs : s < c 0 1) : sem (d + 1) 60 [.ref p, .int (nI s)] w = some (some (.int 1), w) := by
  have h5 := hc.2.1
  have e := s_isThing (d := d) (p := p) (n := c 0 1) (s := nI s) (w := w) hp X.2.1 (by omega)
  rw [if_pos (rng hs (by omega))] at e
  exact e
theorem x_isThing0 {d : Nat} {x : Int32} (hp : scp p) (X : XS p c w) (hc : okc c) (hs : ¬ (¬ x < 0 ∧ x < nI (c 0 1))) : sem (d + 1) 60 [.ref p, .int x] w = some (some (.int 0), w) := by
  have h5 := hc.2.1
  have e := s_isThing (d := d) (p := p) (n := c 0 1) (s := x) (w := w) hp X.2.1 (by omega)
  rw [if_neg hs] at e
  exact e
theorem m_isThing1 {d s : Nat} (M : MS c w) (hc : okc c) (hs : s < c 0 1) : sem (d + 2) 152 [.ref 34, .int (nI s)] w = some (some (.int 1), w) := by
  have h5 := hc.2.1
  have e := m_isThing (d := d) (x := nI s) M hc
  rw [if_pos (rng hs (by omega))] at e
  exact e
theorem m_isThing0 {d : Nat} {x : Int32} (M : MS c w) (hc : okc c) (hs : ¬ (¬ x < 0 ∧ x < nI (c 0 1))) : sem (d + 2) 152 [.ref 34, .int x] w = some (some (.int 0), w) := by
  have e := m_isThing (d := d) (x := x) M hc
  rw [if_neg hs] at e
  exact e
theorem x_isPupil1 {d s : Nat} (hp : scp p) (X : XS p c w) (hc : okc c) (hs : s < c 0 2) : sem (d + 1) 61 [.ref p, .int (nI s)] w = some (some (.int 1), w) := by
  have h5 := hc.2.2.1
  have e := s_isPupil (d := d) (p := p) (n := c 0 2) (s := nI s) (w := w) hp X.2.2.1 (by omega)
  rw [if_pos (rng hs (by omega))] at e
  exact e
theorem x_isPupil0 {d : Nat} {x : Int32} (hp : scp p) (X : XS p c w) (hc : okc c) (hs : ¬ (¬ x < 0 ∧ x < nI (c 0 2))) : sem (d + 1) 61 [.ref p, .int x] w = some (some (.int 0), w) := by
  have h5 := hc.2.2.1
  have e := s_isPupil (d := d) (p := p) (n := c 0 2) (s := x) (w := w) hp X.2.2.1 (by omega)
  rw [if_neg hs] at e
  exact e
theorem m_isPupil1 {d s : Nat} (M : MS c w) (hc : okc c) (hs : s < c 0 2) : sem (d + 2) 153 [.ref 34, .int (nI s)] w = some (some (.int 1), w) := by
  have h5 := hc.2.2.1
  have e := m_isPupil (d := d) (x := nI s) M hc
  rw [if_pos (rng hs (by omega))] at e
  exact e
theorem m_isPupil0 {d : Nat} {x : Int32} (M : MS c w) (hc : okc c) (hs : ¬ (¬ x < 0 ∧ x < nI (c 0 2))) : sem (d + 2) 153 [.ref 34, .int x] w = some (some (.int 0), w) := by
  have e := m_isPupil (d := d) (x := x) M hc
  rw [if_neg hs] at e
  exact e
theorem m_inL1 {d s N : Nat} {hi : Int32} (hN : N < 2 ^ 31) (hh : nI N - 1 = hi) (hs : s < N) : sem (d + 1) 135 [.int (nI s), .int 0, .int hi] w = some (some (.int 1), w) := by
  have e := m_in0 (d := d) (x := nI s) (n := N) (w := w) hN
  rw [if_pos (rng hs hN), hh] at e
  exact e
theorem m_inL0 {d N : Nat} {x hi : Int32} (hN : N < 2 ^ 31) (hh : nI N - 1 = hi) (hs : ¬ (¬ x < 0 ∧ x < nI N)) : sem (d + 1) 135 [.int x, .int 0, .int hi] w = some (some (.int 0), w) := by
  have e := m_in0 (d := d) (x := x) (n := N) (w := w) hN
  rw [if_neg hs, hh] at e
  exact e
/-- out of a range: below 0, or beyond -/
theorem out_cs {x : Int32} {N : Nat} (h : ¬ (¬ x < 0 ∧ x < nI N)) : x < 0 ∨ (¬ x < 0 ∧ nI N ≤ x) := by
  by_cases h0 : x < 0
  · exact Or.inl h0
  · exact Or.inr ⟨h0, i_nlt (fun g => h ⟨h0, g⟩)⟩
theorem x_eff1 {d e : Nat} (he : e < 1024) : sem (d + 1) 130 [.int (nI e)] w = some (some (.int 1), w) :=
  e_X8_isEffectSet.trans (p_X8_isEffectSet_0FF_R (nI_pos (by omega)) (nI_ge (b := 1024) he (by decide)))
theorem x_eff0 {d : Nat} {x : Int32} (h : ¬ (¬ x < 0 ∧ x < nI 1024)) : sem (d + 1) 130 [.int x] w = some (some (.int 0), w) := by
  rcases out_cs h with h | ⟨h1, h2⟩
  · exact e_X8_isEffectSet.trans (p_X8_isEffectSet_0T_R h)
  · exact e_X8_isEffectSet.trans (p_X8_isEffectSet_0FT_R h1 h2)
theorem x_yn1 {d s : Nat} (hs : s < 2) : sem (d + 1) 131 [.int (nI s)] w = some (some (.int 1), w) := by
  rcases (by omega : s = 0 ∨ s = 1) with rfl | rfl
  · exact e_X8_isYesOrNo.trans (p_X8_isYesOrNo_0T_R rfl)
  · exact e_X8_isYesOrNo.trans (p_X8_isYesOrNo_0FF_R (by decide) rfl)
theorem x_yn0 {d : Nat} {x : Int32} (h : ¬ (¬ x < 0 ∧ x < nI 2)) : sem (d + 1) 131 [.int x] w = some (some (.int 0), w) :=
  e_X8_isYesOrNo.trans (p_X8_isYesOrNo_0FT_R (fun g => h (by rw [g]; decide)) (fun g => h (by rw [g]; decide)))
theorem oi_ne {x : Int32} {N k : Nat} (h : ¬ (¬ x < 0 ∧ x < nI N)) (hk : k < N) (hN : N < 2 ^ 31) : ¬ x = nI k := fun g => h (by rw [g]; exact rng hk hN)
end JST

/-! the class's Reader: what is told; the whole text -/
theorem tell6 {k : Nat} {ns : List Nat} {D : Dr} (hk : 4 ≤ k ∧ k ≤ 9) {j : Nat} (h1 : 7 ≤ j) (h2 : j ≤ 9) : (tellD k ns D).1 6 j = if j = k then 1 else D.1 6 j := by
  unfold tellD
  rcases (by omega : k = 4 ∨ k = 5 ∨ k = 6 ∨ 7 ≤ k) with rfl | rfl | rfl | h7
  · rw [if_pos rfl, if_neg (by omega)]
    show (upC (upC (upC (upC (upC D.1 1 (D.1 0 0) (ns.getD 3 0)) 2 (D.1 0 0) (ns.getD 2 0)) 3 (D.1 0 0) (ns.getD 1 0)) 4 (D.1 0 0) (ns.getD 0 0)) 0 0 (D.1 0 0 + 1)) 6 j = _
    rw [upC_i (by decide), upC_i (by decide), upC_i (by decide), upC_i (by decide), upC_i (by decide)]
  · rw [if_neg (by decide), if_pos rfl, if_neg (by omega)]
    exact upC_i (c := D.1) (i := 0) (j := 1) (v := D.1 0 1 + 1) (a := 6) (by decide)
  · rw [if_neg (by decide), if_neg (by decide), if_pos rfl, if_neg (by omega)]
    show (upC (upC D.1 5 (D.1 0 2) (ns.getD 0 0)) 0 2 (D.1 0 2 + 1)) 6 j = _
    rw [upC_i (by decide), upC_i (by decide)]
  · rw [if_neg (by omega), if_neg (by omega), if_neg (by omega)]
    show (upC (upC D.1 0 (k - 4) (ns.getD 0 0)) 6 k 1) 6 j = _
    by_cases e : j = k
    · rw [if_pos e, e, upC_e]
    · rw [if_neg e, upC_j e, upC_i (by decide)]
section XREAD
variable {d p : Nat} {S : PS} {w : Wd}
/-- the draft behind what is told -/
def tlI (p : Nat) (D : Dr) (w w2 : Wd) : Prop := XS p D.1 w2 ∧ XF p D.2 w2 ∧ (∀ q, q < p ∨ p + 7 ≤ q → w2.1 q = w.1 q) ∧ w2.2 = w.2
theorem t_spell {c : Nat → Nat → Nat} {fr : Nat → List Nat} {e g l f : Nat} (hp : scp p) (X : XS p c w) (F : XF p fr w) (h5 : c 0 0 < 5) :
    ∃ w2, sem (d + 2) 47 [.ref p, .int (nI e), .int (nI g), .int (nI l), .int (nI f)] w = some (none, w2) ∧ tlI p (tellD 4 [f, l, g, e] (c, fr)) w w2 := by
  obtain ⟨x0, x1, x2, x3, x4, x5, x6, x7⟩ := X
  obtain ⟨c1, c2, c3, c4, c5, c6⟩ := hp.c
  obtain ⟨l1, l2, l3, l4, l5, l6⟩ := hp.l
  have a1 := fun w => s_put (d := d) (a := p + 1) (k := c 0 0) (x := nI e) (w := w) c1 (by omega)
  have a2 := fun w => s_put (d := d) (a := p + 2) (k := c 0 0) (x := nI g) (w := w) c2 (by omega)
  have a3 := fun w => s_put (d := d) (a := p + 3) (k := c 0 0) (x := nI l) (w := w) c3 (by omega)
  have a4 := fun w => s_put (d := d) (a := p + 4) (k := c 0 0) (x := nI f) (w := w) c4 (by omega)
  have z1 : (updI w (p + 1) (c 0 0) (nI e)).1 p 6 = nI (c 0 0) := by rw [rd_n (by omega), x0]
  have z2 : (updI (updI w (p + 1) (c 0 0) (nI e)) (p + 2) (c 0 0) (nI g)).1 p 6 = nI (c 0 0) := by rw [rd_n (by omega), z1]
  have z3 : (updI (updI (updI w (p + 1) (c 0 0) (nI e)) (p + 2) (c 0 0) (nI g)) (p + 3) (c 0 0) (nI l)).1 p 6 = nI (c 0 0) := by rw [rd_n (by omega), z2]
  have z4 : (updI (updI (updI (updI w (p + 1) (c 0 0) (nI e)) (p + 2) (c 0 0) (nI g)) (p + 3) (c 0 0) (nI l)) (p + 4) (c 0 0) (nI f)).1 p 6 = nI (c 0 0) := by rw [rd_n (by omega), z3]
  have t := p_X5_addSpell_0_R (ex := sem (d + 1)) (x1 := nI e) (x2 := nI g) (x3 := nI l) (x4 := nI f) hp (by rw [x0]; exact a1 w) (by rw [z1]; exact a2 _) (by rw [z2]; exact a3 _) (by rw [z3]; exact a4 _)
  rw [z4, nI_1] at t
  refine ⟨_, e_X5_addSpell.trans t, ⟨?_, ?_, ?_, ?_, ?_, ?_, fun s hs => ?_, fun q hq => ?_⟩, fun k hk => ?_, fun q hq => ?_, rfl⟩
  · show _ = nI ((upC (upC (upC (upC (upC c 1 (c 0 0) e) 2 (c 0 0) g) 3 (c 0 0) l) 4 (c 0 0) f) 0 0 (c 0 0 + 1)) 0 0)
    rw [rd_e, upC_e]
  · show _ = nI ((upC (upC (upC (upC (upC c 1 (c 0 0) e) 2 (c 0 0) g) 3 (c 0 0) l) 4 (c 0 0) f) 0 0 (c 0 0 + 1)) 0 1)
    rw [upC_j (by decide), upC_i (by decide), upC_i (by decide), upC_i (by decide), upC_i (by decide), rd_k (by decide), rd_n (by omega), rd_n (by omega), rd_n (by omega), rd_n (by omega)]
    exact x1
  · show _ = nI ((upC (upC (upC (upC (upC c 1 (c 0 0) e) 2 (c 0 0) g) 3 (c 0 0) l) 4 (c 0 0) f) 0 0 (c 0 0 + 1)) 0 2)
    rw [upC_j (by decide), upC_i (by decide), upC_i (by decide), upC_i (by decide), upC_i (by decide), rd_k (by decide), rd_n (by omega), rd_n (by omega), rd_n (by omega), rd_n (by omega)]
    exact x2
  · show _ = nI ((upC (upC (upC (upC (upC c 1 (c 0 0) e) 2 (c 0 0) g) 3 (c 0 0) l) 4 (c 0 0) f) 0 0 (c 0 0 + 1)) 0 3)
    rw [upC_j (by decide), upC_i (by decide), upC_i (by decide), upC_i (by decide), upC_i (by decide), rd_k (by decide), rd_n (by omega), rd_n (by omega), rd_n (by omega), rd_n (by omega)]
    exact x3
  · show _ = nI ((upC (upC (upC (upC (upC c 1 (c 0 0) e) 2 (c 0 0) g) 3 (c 0 0) l) 4 (c 0 0) f) 0 0 (c 0 0 + 1)) 0 4)
    rw [upC_j (by decide), upC_i (by decide), upC_i (by decide), upC_i (by decide), upC_i (by decide), rd_k (by decide), rd_n (by omega), rd_n (by omega), rd_n (by omega), rd_n (by omega)]
    exact x4
  · show _ = nI ((upC (upC (upC (upC (upC c 1 (c 0 0) e) 2 (c 0 0) g) 3 (c 0 0) l) 4 (c 0 0) f) 0 0 (c 0 0 + 1)) 0 5)
    rw [upC_j (by decide), upC_i (by decide), upC_i (by decide), upC_i (by decide), upC_i (by decide), rd_k (by decide), rd_n (by omega), rd_n (by omega), rd_n (by omega), rd_n (by omega)]
    exact x5
  · have hs : s < upC (upC (upC (upC (upC c 1 (c 0 0) e) 2 (c 0 0) g) 3 (c 0 0) l) 4 (c 0 0) f) 0 0 (c 0 0 + 1) 0 0 := hs
    rw [upC_e] at hs
    show _ = nI (upC (upC (upC (upC (upC c 1 (c 0 0) e) 2 (c 0 0) g) 3 (c 0 0) l) 4 (c 0 0) f) 0 0 (c 0 0 + 1) 1 s) ∧ _ = nI (upC (upC (upC (upC (upC c 1 (c 0 0) e) 2 (c 0 0) g) 3 (c 0 0) l) 4 (c 0 0) f) 0 0 (c 0 0 + 1) 2 s) ∧ _ = nI (upC (upC (upC (upC (upC c 1 (c 0 0) e) 2 (c 0 0) g) 3 (c 0 0) l) 4 (c 0 0) f) 0 0 (c 0 0 + 1) 3 s) ∧ _ = nI (upC (upC (upC (upC (upC c 1 (c 0 0) e) 2 (c 0 0) g) 3 (c 0 0) l) 4 (c 0 0) f) 0 0 (c 0 0 + 1) 4 s)
    by_cases es : s = c 0 0
    · rw [es]
      refine ⟨?_, ?_, ?_, ?_⟩
      · rw [upC_i (by decide), upC_i (by decide), upC_i (by decide), upC_i (by decide), upC_e, rd_n (by omega), rd_n (by omega), rd_n (by omega), rd_n (by omega), rd_e]
      · rw [upC_i (by decide), upC_i (by decide), upC_i (by decide), upC_e, rd_n (by omega), rd_n (by omega), rd_n (by omega), rd_e]
      · rw [upC_i (by decide), upC_i (by decide), upC_e, rd_n (by omega), rd_n (by omega), rd_e]
      · rw [upC_i (by decide), upC_e, rd_n (by omega), rd_e]
    · obtain ⟨y1, y2, y3, y4⟩ := x6 s (by omega)
      refine ⟨?_, ?_, ?_, ?_⟩
      · rw [upC_i (by decide), upC_j es, upC_j es, upC_j es, upC_j es, rd_n (by omega), rd_n (by omega), rd_n (by omega), rd_n (by omega), rd_k es]; exact y1
      · rw [upC_i (by decide), upC_j es, upC_j es, upC_j es, upC_j es, rd_n (by omega), rd_n (by omega), rd_n (by omega), rd_k es, rd_n (by omega)]; exact y2
      · rw [upC_i (by decide), upC_j es, upC_j es, upC_j es, upC_j es, rd_n (by omega), rd_n (by omega), rd_k es, rd_n (by omega), rd_n (by omega)]; exact y3
      · rw [upC_i (by decide), upC_j es, upC_j es, upC_j es, upC_j es, rd_n (by omega), rd_k es, rd_n (by omega), rd_n (by omega), rd_n (by omega)]; exact y4
  · have hq : q < upC (upC (upC (upC (upC c 1 (c 0 0) e) 2 (c 0 0) g) 3 (c 0 0) l) 4 (c 0 0) f) 0 0 (c 0 0 + 1) 0 2 := hq
    rw [upC_j (by decide), upC_i (by decide), upC_i (by decide), upC_i (by decide), upC_i (by decide)] at hq
    show _ = nI (upC (upC (upC (upC (upC c 1 (c 0 0) e) 2 (c 0 0) g) 3 (c 0 0) l) 4 (c 0 0) f) 0 0 (c 0 0 + 1) 5 q)
    rw [upC_i (by decide), upC_i (by decide), upC_i (by decide), upC_i (by decide), upC_i (by decide), rd_n (by omega), rd_n (by omega), rd_n (by omega), rd_n (by omega), rd_n (by omega)]
    exact x7 q hq
  · rw [rd_n (by omega), rd_n (by omega), rd_n (by omega), rd_n (by omega), rd_n (by omega)]
    exact F k hk
  · funext j
    rw [rd_n (by omega), rd_n (by omega), rd_n (by omega), rd_n (by omega), rd_n (by omega)]
theorem t_thing {c : Nat → Nat → Nat} {fr : Nat → List Nat} {ns : List Nat} (hp : scp p) (X : XS p c w) (F : XF p fr w) (h5 : c 0 1 < 4) :
    ∃ w2, sem (d + 2) 48 [.ref p, .int (nI (cx ns))] w = some (none, w2) ∧ tlI p (tellD 5 ns (c, fr)) w w2 := by
  obtain ⟨x0, x1, x2, x3, x4, x5, x6, x7⟩ := X
  obtain ⟨c1, c2, c3, c4, c5, c6⟩ := hp.c
  obtain ⟨l1, l2, l3, l4, l5, l6⟩ := hp.l
  have a1 := s_put (d := d) (a := p + 5) (k := c 0 1) (x := nI (cx ns)) (w := w) c5 (by omega)
  have t := p_X5_addThing_0_R (ex := sem (d + 1)) (x1 := nI (cx ns)) hp (by rw [x1]; exact a1)
  rw [rd_n (show p ≠ p + 5 by omega), x1, nI_1] at t
  refine ⟨_, e_X5_addThing.trans t, ⟨?_, ?_, ?_, ?_, ?_, ?_, fun s hs => ?_, fun q hq => ?_⟩, fun k hk => ?_, fun q hq => ?_, rfl⟩
  · show _ = nI ((upC c 0 1 (c 0 1 + 1)) 0 0)
    rw [upC_j (by decide), rd_k (by decide), rd_n (by omega)]; exact x0
  · show _ = nI ((upC c 0 1 (c 0 1 + 1)) 0 1)
    rw [upC_e, rd_e]
  · show _ = nI ((upC c 0 1 (c 0 1 + 1)) 0 2)
    rw [upC_j (by decide), rd_k (by decide), rd_n (by omega)]; exact x2
  · show _ = nI ((upC c 0 1 (c 0 1 + 1)) 0 3)
    rw [upC_j (by decide), rd_k (by decide), rd_n (by omega)]; exact x3
  · show _ = nI ((upC c 0 1 (c 0 1 + 1)) 0 4)
    rw [upC_j (by decide), rd_k (by decide), rd_n (by omega)]; exact x4
  · show _ = nI ((upC c 0 1 (c 0 1 + 1)) 0 5)
    rw [upC_j (by decide), rd_k (by decide), rd_n (by omega)]; exact x5
  · have hs : s < upC c 0 1 (c 0 1 + 1) 0 0 := hs
    rw [upC_j (by decide)] at hs
    show _ = nI (upC c 0 1 (c 0 1 + 1) 1 s) ∧ _ = nI (upC c 0 1 (c 0 1 + 1) 2 s) ∧ _ = nI (upC c 0 1 (c 0 1 + 1) 3 s) ∧ _ = nI (upC c 0 1 (c 0 1 + 1) 4 s)
    rw [upC_i (by decide), upC_i (by decide), upC_i (by decide), upC_i (by decide), rd_n (by omega), rd_n (by omega), rd_n (by omega), rd_n (by omega), rd_n (by omega), rd_n (by omega), rd_n (by omega), rd_n (by omega)]
    exact x6 s hs
  · have hq : q < upC c 0 1 (c 0 1 + 1) 0 2 := hq
    rw [upC_j (by decide)] at hq
    show _ = nI (upC c 0 1 (c 0 1 + 1) 5 q)
    rw [upC_i (by decide), rd_n (by omega), rd_n (by omega)]
    exact x7 q hq
  · show _ = nI (cx (upR fr (c 0 1) ns k))
    rw [rd_n (by omega)]
    unfold upR
    by_cases e : k = c 0 1
    · rw [if_pos e, e, rd_e]
    · rw [if_neg e, rd_k e]; exact F k hk
  · funext j
    rw [rd_n (by omega), rd_n (by omega)]
theorem t_pupil {c : Nat → Nat → Nat} {fr : Nat → List Nat} {v : Nat} (hp : scp p) (X : XS p c w) (F : XF p fr w) (h5 : c 0 2 < 3) :
    ∃ w2, sem (d + 2) 49 [.ref p, .int (nI v)] w = some (none, w2) ∧ tlI p (tellD 6 [v] (c, fr)) w w2 := by
  obtain ⟨x0, x1, x2, x3, x4, x5, x6, x7⟩ := X
  obtain ⟨c1, c2, c3, c4, c5, c6⟩ := hp.c
  obtain ⟨l1, l2, l3, l4, l5, l6⟩ := hp.l
  have a1 := s_put (d := d) (a := p + 6) (k := c 0 2) (x := nI v) (w := w) c6 (by omega)
  have t := p_X5_addPupil_0_R (ex := sem (d + 1)) (x1 := nI v) hp (by rw [x2]; exact a1)
  rw [rd_n (show p ≠ p + 6 by omega), x2, nI_1] at t
  refine ⟨_, e_X5_addPupil.trans t, ⟨?_, ?_, ?_, ?_, ?_, ?_, fun s hs => ?_, fun q hq => ?_⟩, fun k hk => ?_, fun q hq => ?_, rfl⟩
  · show _ = nI ((upC (upC c 5 (c 0 2) v) 0 2 (c 0 2 + 1)) 0 0)
    rw [upC_j (by decide), upC_i (by decide), rd_k (by decide), rd_n (by omega)]; exact x0
  · show _ = nI ((upC (upC c 5 (c 0 2) v) 0 2 (c 0 2 + 1)) 0 1)
    rw [upC_j (by decide), upC_i (by decide), rd_k (by decide), rd_n (by omega)]; exact x1
  · show _ = nI ((upC (upC c 5 (c 0 2) v) 0 2 (c 0 2 + 1)) 0 2)
    rw [upC_e, rd_e]
  · show _ = nI ((upC (upC c 5 (c 0 2) v) 0 2 (c 0 2 + 1)) 0 3)
    rw [upC_j (by decide), upC_i (by decide), rd_k (by decide), rd_n (by omega)]; exact x3
  · show _ = nI ((upC (upC c 5 (c 0 2) v) 0 2 (c 0 2 + 1)) 0 4)
    rw [upC_j (by decide), upC_i (by decide), rd_k (by decide), rd_n (by omega)]; exact x4
  · show _ = nI ((upC (upC c 5 (c 0 2) v) 0 2 (c 0 2 + 1)) 0 5)
    rw [upC_j (by decide), upC_i (by decide), rd_k (by decide), rd_n (by omega)]; exact x5
  · have hs : s < upC (upC c 5 (c 0 2) v) 0 2 (c 0 2 + 1) 0 0 := hs
    rw [upC_j (by decide), upC_i (by decide)] at hs
    show _ = nI (upC (upC c 5 (c 0 2) v) 0 2 (c 0 2 + 1) 1 s) ∧ _ = nI (upC (upC c 5 (c 0 2) v) 0 2 (c 0 2 + 1) 2 s) ∧ _ = nI (upC (upC c 5 (c 0 2) v) 0 2 (c 0 2 + 1) 3 s) ∧ _ = nI (upC (upC c 5 (c 0 2) v) 0 2 (c 0 2 + 1) 4 s)
    rw [upC_i (by decide), upC_i (by decide), upC_i (by decide), upC_i (by decide), upC_i (by decide), upC_i (by decide), upC_i (by decide), upC_i (by decide), rd_n (by omega), rd_n (by omega), rd_n (by omega), rd_n (by omega), rd_n (by omega), rd_n (by omega), rd_n (by omega), rd_n (by omega)]
    exact x6 s hs
  · have hq : q < upC (upC c 5 (c 0 2) v) 0 2 (c 0 2 + 1) 0 2 := hq
    rw [upC_e] at hq
    show _ = nI (upC (upC c 5 (c 0 2) v) 0 2 (c 0 2 + 1) 5 q)
    rw [upC_i (by decide), rd_n (by omega)]
    by_cases e : q = c 0 2
    · rw [e, upC_e, rd_e]
    · rw [upC_j e, rd_k e]; exact x7 q (by omega)
  · rw [rd_n (by omega), rd_n (by omega)]
    exact F k hk
  · funext j
    rw [rd_n (by omega), rd_n (by omega)]
theorem t_cost {c : Nat → Nat → Nat} {fr : Nat → List Nat} {k v : Nat} (X : XS p c w) (F : XF p fr w) (h7 : 7 ≤ k) (h9 : k ≤ 9) : tlI p (tellD k [v] (c, fr)) w (updI w p (k + 2) (nI v)) := by
  obtain ⟨x0, x1, x2, x3, x4, x5, x6, x7⟩ := X
  unfold tellD
  rw [if_neg (by omega), if_neg (by omega), if_neg (by omega)]
  have e : ∀ a b, a ≠ 6 → ¬ (a = 0 ∧ b = k - 4) → upC (upC c 0 (k - 4) v) 6 k 1 a b = c a b := fun a b h1 h2 => by
    rw [upC_i h1]
    exact if_neg h2
  refine ⟨⟨?_, ?_, ?_, ?_, ?_, ?_, fun s hs => ?_, fun q hq => ?_⟩, fun t ht => ?_, fun q hq => ?_, rfl⟩
  · show _ = nI (upC (upC c 0 (k - 4) v) 6 k 1 0 0)
    rw [e 0 0 (by decide) (by omega), rd_k (by omega)]; exact x0
  · show _ = nI (upC (upC c 0 (k - 4) v) 6 k 1 0 1)
    rw [e 0 1 (by decide) (by omega), rd_k (by omega)]; exact x1
  · show _ = nI (upC (upC c 0 (k - 4) v) 6 k 1 0 2)
    rw [e 0 2 (by decide) (by omega), rd_k (by omega)]; exact x2
  · show _ = nI (upC (upC c 0 (k - 4) v) 6 k 1 0 3)
    by_cases h : k = 7
    · rw [h, upC_i (by decide)]
      show (updI w p 9 (nI v)).1 p 9 = nI (upC c 0 3 v 0 3)
      rw [rd_e, upC_e]
    · rw [e 0 3 (by decide) (by omega), rd_k (by omega)]; exact x3
  · show _ = nI (upC (upC c 0 (k - 4) v) 6 k 1 0 4)
    by_cases h : k = 8
    · rw [h, upC_i (by decide)]
      show (updI w p 10 (nI v)).1 p 10 = nI (upC c 0 4 v 0 4)
      rw [rd_e, upC_e]
    · rw [e 0 4 (by decide) (by omega), rd_k (by omega)]; exact x4
  · show _ = nI (upC (upC c 0 (k - 4) v) 6 k 1 0 5)
    by_cases h : k = 9
    · rw [h, upC_i (by decide)]
      show (updI w p 11 (nI v)).1 p 11 = nI (upC c 0 5 v 0 5)
      rw [rd_e, upC_e]
    · rw [e 0 5 (by decide) (by omega), rd_k (by omega)]; exact x5
  · have hs : s < upC (upC c 0 (k - 4) v) 6 k 1 0 0 := hs
    rw [e 0 0 (by decide) (by omega)] at hs
    show _ = nI (upC (upC c 0 (k - 4) v) 6 k 1 1 s) ∧ _ = nI (upC (upC c 0 (k - 4) v) 6 k 1 2 s) ∧ _ = nI (upC (upC c 0 (k - 4) v) 6 k 1 3 s) ∧ _ = nI (upC (upC c 0 (k - 4) v) 6 k 1 4 s)
    rw [e 1 s (by decide) (by omega), e 2 s (by decide) (by omega), e 3 s (by decide) (by omega), e 4 s (by decide) (by omega), rd_n (by omega), rd_n (by omega), rd_n (by omega), rd_n (by omega)]
    exact x6 s hs
  · have hq : q < upC (upC c 0 (k - 4) v) 6 k 1 0 2 := hq
    rw [e 0 2 (by decide) (by omega)] at hq
    show _ = nI (upC (upC c 0 (k - 4) v) 6 k 1 5 q)
    rw [e 5 q (by decide) (by omega), rd_n (by omega)]
    exact x7 q hq
  · rw [rd_n (by omega)]
    exact F t ht
  · funext j
    rw [rd_n (by omega)]
end XREAD

/-! the reference: items out of tokens -/
/-- reading on from a place, with fuel enough -/
def PR (bt : Nat → Nat) (n i : Nat) (S : PS) : Nat ⊕ PS := prs bt n (n - i + 1) i S
section PRL
variable {bt : Nat → Nat} {n : Nat}
theorem step1 {v : Nat} {S : PS} : stepP 1 v S = none := if_pos (by decide)
theorem prs_s (m i : Nat) (S : PS) : prs bt n (m + 1) i S = if tkK bt n i = 1 ∧ S.1 = 0 then .inr S else match stepP (tkK bt n i) (tkV bt n i) S with
    | none => .inl (tkS bt n i)
    | some S2 => prs bt n m (tkE bt n i) S2 := rfl
theorem prs_fuel : ∀ (m i : Nat) (S : PS) (m2 : Nat), i ≤ n → n - i < m → n - i < m2 → prs bt n m i S = prs bt n m2 i S := by
  intro m
  induction m with
  | zero => intro i S m2 _ h _; exact absurd h (Nat.not_lt_zero _)
  | succ m ih =>
    intro i S m2 hi h1 h2
    obtain ⟨m2', rfl⟩ : ∃ k, m2 = k + 1 := ⟨m2 - 1, by omega⟩
    obtain ⟨t1, t2, t3, t4, t5⟩ := tk_adv (bt := bt) hi
    unfold prs
    by_cases hend : tkK bt n i = 1 ∧ S.1 = 0
    · rw [if_pos hend, if_pos hend]
    · rw [if_neg hend, if_neg hend]
      cases hst : stepP (tkK bt n i) (tkV bt n i) S with
      | none => rfl
      | some S2 =>
        have h1' : tkK bt n i ≠ 1 := fun h => by rw [h, step1] at hst; exact absurd hst (by simp)
        have := t5 h1'
        exact ih (tkE bt n i) S2 m2' t3 (by omega) (by omega)
theorem PR_end {i : Nat} {S : PS} (h : tkK bt n i = 1) (h0 : S.1 = 0) : PR bt n i S = .inr S := if_pos ⟨h, h0⟩
theorem PR_some {i : Nat} {S S2 : PS} (hi : i ≤ n) (hst : stepP (tkK bt n i) (tkV bt n i) S = some S2) : PR bt n i S = PR bt n (tkE bt n i) S2 := by
  obtain ⟨t1, t2, t3, t4, t5⟩ := tk_adv (bt := bt) hi
  have h1' : tkK bt n i ≠ 1 := fun h => by rw [h, step1] at hst; exact absurd hst (by simp)
  have h2 := t5 h1'
  have e : PR bt n i S = prs bt n (n - i) (tkE bt n i) S2 := by
    unfold PR
    rw [prs_s, if_neg (fun h => h1' h.1), hst]
  rw [e]
  exact prs_fuel _ _ _ _ t3 (by omega) (by omega)
theorem PR_none {i : Nat} {S : PS} (h : ¬ (tkK bt n i = 1 ∧ S.1 = 0)) (hst : stepP (tkK bt n i) (tkV bt n i) S = none) : PR bt n i S = .inl (tkS bt n i) := by
  unfold PR
  rw [prs_s, if_neg h, hst]
theorem PR_num {i k it : Nat} {ns : List Nat} {D : Dr} (hi : i ≤ n) (h3 : tkK bt n i = 3) (hc : canNx D.1 k ns (tkV bt n i) = true) : PR bt n i (k, ns, D, it) = PR bt n (tkE bt n i) (k, tkV bt n i :: ns, D, it) := by
  refine PR_some hi ?_
  rw [h3]
  unfold stepP
  rw [if_neg (by decide), if_neg (by decide), if_pos rfl]
  exact if_pos hc
theorem PR_no {i k it : Nat} {ns : List Nat} {D : Dr} (hk : k ≠ 0) (h3 : tkK bt n i = 3 → canNx D.1 k ns (tkV bt n i) = false) (h2 : tkK bt n i = 2 → whl k ns = false) : PR bt n i (k, ns, D, it) = .inl (tkS bt n i) := by
  refine PR_none (fun h => hk h.2) ?_
  unfold stepP
  split
  · rfl
  · split
    · rename_i h
      exact if_neg (fun g => by rw [h2 h] at g; exact absurd g.2 (by decide))
    · split
      · rename_i h
        exact if_neg (fun g => by rw [h3 h] at g; exact absurd g (by decide))
      · exact if_neg (fun g => hk g.1)
theorem PR_close {i k it : Nat} {ns : List Nat} {D : Dr} (hi : i ≤ n) (hk : k ≠ 0) (h2 : tkK bt n i = 2) (hw : whl k ns = true) : PR bt n i (k, ns, D, it) = PR bt n (tkE bt n i) (0, ns, tellD k ns D, it + 1) := by
  refine PR_some hi ?_
  rw [h2]
  unfold stepP
  rw [if_neg (by decide), if_pos rfl]
  exact if_pos ⟨hk, hw⟩
theorem PR_open {i it : Nat} {ns : List Nat} {D : Dr} (hi : i ≤ n) (h4 : 4 ≤ tkK bt n i) (hc : canOp D.1 (tkK bt n i) = true) : PR bt n i (0, ns, D, it) = PR bt n (tkE bt n i) (tkK bt n i, [], D, it) := by
  refine PR_some hi ?_
  unfold stepP
  rw [if_neg (by omega), if_neg (by omega), if_neg (by omega)]
  exact if_pos ⟨rfl, hc⟩
theorem PR_noop {i it : Nat} {ns : List Nat} {D : Dr} (h1 : tkK bt n i ≠ 1) (h4 : 4 ≤ tkK bt n i → canOp D.1 (tkK bt n i) = false) : PR bt n i (0, ns, D, it) = .inl (tkS bt n i) := by
  refine PR_none (fun h => h1 h.1) ?_
  unfold stepP
  split
  · rfl
  · split
    · exact if_neg (fun g => g.1 rfl)
    · split
      · exact if_neg (fun g => absurd g (by show ¬ canNx D.1 0 ns _ = true; exact (by decide : ¬ false = true)))
      · exact if_neg (fun g => by rw [h4 (by omega)] at g; exact absurd g.2 (by decide))
end PRL
theorem mtk_eq {k : Nat} : (mtk k = 0 ↔ k = 1) ∧ (mtk k = 1 ↔ 4 ≤ k) ∧ (mtk k = 2 ↔ k = 3) ∧ (mtk k = 3 ↔ k = 2) := by
  unfold mtk
  by_cases h0 : k = 0
  · rw [if_pos h0]; exact ⟨⟨fun h => absurd h (by decide), fun h => by omega⟩, ⟨fun h => absurd h (by decide), fun h => by omega⟩, ⟨fun h => absurd h (by decide), fun h => by omega⟩, ⟨fun h => absurd h (by decide), fun h => by omega⟩⟩
  rw [if_neg h0]
  by_cases h1 : k = 1
  · rw [if_pos h1]; exact ⟨⟨fun _ => h1, fun _ => rfl⟩, ⟨fun h => absurd h (by decide), fun h => by omega⟩, ⟨fun h => absurd h (by decide), fun h => by omega⟩, ⟨fun h => absurd h (by decide), fun h => by omega⟩⟩
  rw [if_neg h1]
  by_cases h2 : k = 2
  · rw [if_pos h2]; exact ⟨⟨fun h => absurd h (by decide), fun h => by omega⟩, ⟨fun h => absurd h (by decide), fun h => by omega⟩, ⟨fun h => absurd h (by decide), fun h => by omega⟩, ⟨fun _ => h2, fun _ => rfl⟩⟩
  rw [if_neg h2]
  by_cases h3 : k = 3
  · rw [if_pos h3]; exact ⟨⟨fun h => absurd h (by decide), fun h => by omega⟩, ⟨fun h => absurd h (by decide), fun h => by omega⟩, ⟨fun _ => h3, fun _ => rfl⟩, ⟨fun h => absurd h (by decide), fun h => by omega⟩⟩
  rw [if_neg h3]
  exact ⟨⟨fun h => absurd h (by decide), fun h => by omega⟩, ⟨fun _ => by omega, fun _ => rfl⟩, ⟨fun h => absurd h (by decide), fun h => by omega⟩, ⟨fun h => absurd h (by decide), fun h => by omega⟩⟩
/-- all is well so far, the token behind a place is read; or a fault was found -/
def RW (bt : Nat → Nat) (n j : Nat) (w : Wd) : Prop := j ≤ n ∧ w.1 34 8 = -1 ∧ TKs bt n j w
def FW (f : Nat) (w : Wd) : Prop := f ≤ 300 ∧ w.1 34 8 = nI f
/-- nothing but the token and the fault changes -/
def atg (w w2 : Wd) : Prop := (∀ q, q ≠ 34 → w2.1 q = w.1 q) ∧ (∀ j, j < 4 ∨ 8 < j → w2.1 34 j = w.1 34 j) ∧ w2.2 = w.2
theorem atg.refl (w : Wd) : atg w w := ⟨fun _ _ => rfl, fun _ _ => rfl, rfl⟩
theorem atg.trans {w w2 w3 : Wd} (a : atg w w2) (b : atg w2 w3) : atg w w3 := ⟨fun q h => (b.1 q h).trans (a.1 q h), fun j h => (b.2.1 j h).trans (a.2.1 j h), b.2.2.trans a.2.2⟩
theorem atf.atg {w w2 : Wd} (h : atf w w2) : atg w w2 := ⟨h.1, fun j hj => h.2.1 j (by omega) (by omega) (by omega) (by omega), h.2.2⟩
theorem atg.fault (w : Wd) (x : Int32) : atg w (updI w 34 8 x) := ⟨fun q h => if_neg h, fun j hj => rd_k (by omega), rfl⟩
theorem MT.atg {bt : Nat → Nat} {n : Nat} {w w2 : Wd} (X : MT bt n w) (h : atg w w2) : MT bt n w2 := by
  unfold MT at *
  rw [h.1 35 (by decide), h.2.1 3 (by decide)]
  exact X
theorem RW.up {bt : Nat → Nat} {n j a k : Nat} {w : Wd} {x : Int32} (h : RW bt n j w) (ha : a ≠ 34) : RW bt n j (updI w a k x) := by
  unfold RW TKs at *
  rw [rd_n (Ne.symm ha), rd_n (Ne.symm ha), rd_n (Ne.symm ha), rd_n (Ne.symm ha), rd_n (Ne.symm ha)]
  exact h
theorem RW.up34 {bt : Nat → Nat} {n j k : Nat} {w : Wd} {x : Int32} (h : RW bt n j w) (hk : 8 < k) : RW bt n j (updI w 34 k x) := by
  unfold RW TKs at *
  rw [rd_k (by omega), rd_k (by omega), rd_k (by omega), rd_k (by omega), rd_k (by omega)]
  exact h
theorem FW.up {f a k : Nat} {w : Wd} {x : Int32} (h : FW f w) (ha : a ≠ 34 ∨ 8 < k) : FW f (updI w a k x) := by
  unfold FW at *
  rw [rdI]
  by_cases e : 34 = a
  · rw [if_pos e, if_neg (by omega), ]; exact h
  · rw [if_neg e]; exact h
section MNUM
variable {d : Nat} {bt : Nat → Nat} {n : Nat} {w : Wd}
theorem m_wellT {j : Nat} (R : RW bt n j w) : sem (d + 1) 144 [.ref 34] w = some (some (.int 1), w) := e_X9_isWell.trans (p_X9_isWell_0F_R (by rw [R.2.1]; decide))
theorem m_wellF {f : Nat} (F : FW f w) : sem (d + 1) 144 [.ref 34] w = some (some (.int 0), w) := e_X9_isWell.trans (p_X9_isWell_0T_R (by rw [F.2]; exact nI_pos' (by have := F.1; omega)))
theorem m_takesT {j : Nat} (ho : okt bt n) (T : MT bt n w) (R : RW bt n j w) : ∃ w2, sem (d + 5) 145 [.ref 34, .int 1] w = some (some (.int (w.1 34 7)), w2) ∧ atf w w2 ∧ RW bt n (tkE bt n j) w2 := by
  obtain ⟨t1, t2, t3, t4, t5⟩ := tk_adv (bt := bt) R.1
  obtain ⟨w2, g1, g2, g3⟩ := m_advances (d := d) ho T t3 R.2.2.2.1
  exact ⟨w2, e_X9_takes.trans (p_X9_takes_0TT_R (m_wellT (d := d + 3) R) (by decide) (by decide) g1), g2, t3, by rw [g2.2.1 8 (by decide) (by decide) (by decide) (by decide)]; exact R.2.1, g3⟩
theorem m_takes0 {j : Nat} (ho : okt bt n) (R : RW bt n j w) : sem (d + 2) 145 [.ref 34, .int 0] w = some (some (.int 0), updI w 34 8 (nI (tkS bt n j))) ∧ FW (tkS bt n j) (updI w 34 8 (nI (tkS bt n j))) := by
  obtain ⟨t1, t2, t3, t4, t5⟩ := tk_adv (bt := bt) R.1
  have h3 := ho.1
  have t := p_X9_takes_0TF_R (ex := sem (d + 1)) (x1 := 0) (m_wellT (d := d) R) (by decide) rfl
  rw [R.2.2.1] at t
  exact ⟨e_X9_takes.trans t, by omega, rd_e⟩
theorem m_takesF {f : Nat} {x : Int32} (F : FW f w) : sem (d + 2) 145 [.ref 34, .int x] w = some (some (.int 0), w) := e_X9_takes.trans (p_X9_takes_0F_R (m_wellF F) rfl)
theorem m_in01 {x lo hi : Int32} : ∃ b : Int32, sem (d + 1) 135 [.int x, .int lo, .int hi] w = some (some (.int b), w) ∧ (b = 0 ∨ b = 1) := by
  by_cases h1 : x < lo
  · exact ⟨0, e_X9_in.trans (p_X9_in_0T_R h1), Or.inl rfl⟩
  · by_cases h2 : hi < x
    · exact ⟨0, e_X9_in.trans (p_X9_in_0FT_R h1 h2), Or.inl rfl⟩
    · exact ⟨1, e_X9_in.trans (p_X9_in_0FF_R h1 h2), Or.inr rfl⟩
theorem m_numF {f : Nat} {lo hi : Int32} (F : FW f w) : sem (d + 3) 146 [.ref 34, .int lo, .int hi] w = some (some (.int 0), w) := by
  refine e_X9_number.trans ?_
  by_cases h2 : (w.1 34 5) = 2
  · obtain ⟨b, b1, b2⟩ := m_in01 (d := d + 1) (x := w.1 34 7) (lo := lo) (hi := hi) (w := w)
    rcases b2 with b2 | b2
    · exact p_X9_number_0FT_R h2 b1 b2 (m_takesF F)
    · exact p_X9_number_0FF_R h2 b1 (by rw [b2]; decide) (m_takesF F)
  · exact p_X9_number_0T_R h2 (m_takesF F)
/-- a number taken as the next of an item -/
def numO (bt : Nat → Nat) (n j k it : Nat) (ns : List Nat) (D : Dr) (w : Wd) (x : Int32) (w2 : Wd) : Prop :=
  atg w w2 ∧ ((x = nI (tkV bt n j) ∧ RW bt n (tkE bt n j) w2 ∧ canNx D.1 k ns (tkV bt n j) = true ∧ PR bt n j (k, ns, D, it) = PR bt n (tkE bt n j) (k, tkV bt n j :: ns, D, it)) ∨ ∃ f, FW f w2 ∧ PR bt n j (k, ns, D, it) = .inl f)
theorem m_number {j k it : Nat} {ns : List Nat} {D : Dr} {lo hi : Int32} {b : Bool} (ho : okt bt n) (T : MT bt n w) (R : RW bt n j w) (hk : k ≠ 0) (hin : sem (d + 5) 135 [.int (nI (tkV bt n j)), .int lo, .int hi] w = some (some (.int (b2i b)), w)) (hb : canNx D.1 k ns (tkV bt n j) = b) (hw : tkK bt n j ≠ 3 → whl k ns = false) :
    ∃ x w2, sem (d + 6) 146 [.ref 34, .int lo, .int hi] w = some (some (.int x), w2) ∧ numO bt n j k it ns D w x w2 := by
  by_cases h3 : tkK bt n j = 3
  · have g2 : (w.1 34 5) = 2 := by rw [R.2.2.2.2.1]; exact mtk_eq.2.2.1.mpr h3
    have g7 := R.2.2.2.2.2.1 h3
    rw [← g7] at hin
    cases b with
    | true =>
      obtain ⟨w2, a1, a2, a3⟩ := m_takesT (d := d) ho T R
      refine ⟨_, w2, e_X9_number.trans (p_X9_number_0FF_R g2 hin (by decide) a1), a2.atg, Or.inl ⟨g7, a3, hb, PR_num R.1 h3 hb⟩⟩
    | false =>
      obtain ⟨a1, a2⟩ := m_takes0 (d := d + 3) ho R
      exact ⟨_, _, e_X9_number.trans (p_X9_number_0FT_R g2 hin rfl a1), atg.fault w _, Or.inr ⟨_, a2, PR_no hk (fun _ => hb) (fun h => by omega)⟩⟩
  · have g2 : ¬ (w.1 34 5) = 2 := by rw [R.2.2.2.2.1]; exact fun h => h3 (mtk_eq.2.2.1.mp h)
    obtain ⟨a1, a2⟩ := m_takes0 (d := d + 3) ho R
    exact ⟨_, _, e_X9_number.trans (p_X9_number_0T_R g2 a1), atg.fault w _, Or.inr ⟨_, a2, PR_no hk (fun h => absurd h h3) (fun _ => hw h3)⟩⟩
/-- what is drafted, as the reference holds it -/
def MD (D : Dr) (w : Wd) : Prop :=
  w.1 34 16 = nI (D.1 0 0) ∧ w.1 34 17 = nI (D.1 0 1) ∧ w.1 34 18 = nI (D.1 0 2) ∧ (∀ s, s < D.1 0 0 → w.1 36 (20 + 4 * s) = nI (D.1 1 s) ∧ w.1 36 (20 + 4 * s + 1) = nI (D.1 2 s) ∧ w.1 36 (20 + 4 * s + 2) = nI (D.1 3 s) ∧ w.1 36 (20 + 4 * s + 3) = nI (D.1 4 s)) ∧ (∀ t, t < D.1 0 1 → w.1 37 (4 + t) = nI (cm (D.2 t))) ∧ (∀ q, q < D.1 0 2 → w.1 38 (3 + q) = nI (D.1 5 q)) ∧ ∀ j, 7 ≤ j → j ≤ 9 → w.1 39 (j + 2) = if D.1 6 j = 0 then -9 else nI (D.1 0 (j - 4))
theorem MD.atg {D : Dr} {w w2 : Wd} (M : MD D w) (h : atg w w2) : MD D w2 := by
  unfold MD at *
  rw [h.2.1 16 (by decide), h.2.1 17 (by decide), h.2.1 18 (by decide), h.1 36 (by decide), h.1 37 (by decide), h.1 38 (by decide), h.1 39 (by decide)]
  exact M
/-- what reading may change at the reference -/
def rch (w w2 : Wd) : Prop := (∀ q, q ≠ 34 → q ≠ 36 → q ≠ 37 → q ≠ 38 → q ≠ 39 → w2.1 q = w.1 q) ∧ (∀ j, j < 4 ∨ (8 < j ∧ j < 16) ∨ 18 < j → w2.1 34 j = w.1 34 j) ∧ (∀ k, k < 20 → w2.1 36 k = w.1 36 k) ∧ (∀ k, k < 3 → w2.1 38 k = w.1 38 k) ∧ (∀ k, k < 6 → w2.1 39 k = w.1 39 k) ∧ w2.2 = w.2
theorem rch.refl (w : Wd) : rch w w := ⟨fun _ _ _ _ _ _ => rfl, fun _ _ => rfl, fun _ _ => rfl, fun _ _ => rfl, fun _ _ => rfl, rfl⟩
theorem rch.trans {w w2 w3 : Wd} (a : rch w w2) (b : rch w2 w3) : rch w w3 := ⟨fun q h1 h2 h3 h4 h5 => (b.1 q h1 h2 h3 h4 h5).trans (a.1 q h1 h2 h3 h4 h5), fun j h => (b.2.1 j h).trans (a.2.1 j h), fun k h => (b.2.2.1 k h).trans (a.2.2.1 k h), fun k h => (b.2.2.2.1 k h).trans (a.2.2.2.1 k h), fun k h => (b.2.2.2.2.1 k h).trans (a.2.2.2.2.1 k h), b.2.2.2.2.2.trans a.2.2.2.2.2⟩
theorem atg.rch {w w2 : Wd} (h : atg w w2) : rch w w2 := ⟨fun q h1 _ _ _ _ => h.1 q h1, fun j hj => h.2.1 j (by omega), fun k _ => by rw [h.1 36 (by decide)], fun k _ => by rw [h.1 38 (by decide)], fun k _ => by rw [h.1 39 (by decide)], h.2.2⟩
theorem rch.up (w : Wd) {a k : Nat} (x : Int32) (h : (a = 34 ∧ (k = 16 ∨ k = 17 ∨ k = 18)) ∨ (a = 36 ∧ 20 ≤ k) ∨ a = 37 ∨ (a = 38 ∧ 3 ≤ k) ∨ (a = 39 ∧ 6 ≤ k)) : rch w (updI w a k x) := by
  refine ⟨fun q h1 h2 h3 h4 h5 => if_neg (by omega), fun j hj => ?_, fun j hj => ?_, fun j hj => ?_, fun j hj => ?_, rfl⟩ <;>
  · rw [rdI]
    split
    · rw [if_neg (by omega)]
    · rfl
theorem MT.rch {bt : Nat → Nat} {n : Nat} {w w2 : Wd} (X : MT bt n w) (h : rch w w2) : MT bt n w2 := by
  unfold MT at *
  rw [h.1 35 (by decide) (by decide) (by decide) (by decide) (by decide), h.2.1 3 (by decide)]
  exact X
end MNUM

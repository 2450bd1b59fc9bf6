/-! the search of the class: settled rows, open rows, labels -/
def far : Nat := 1073741824
/-- what a word adds to a label -/
def ext (c : Nat → Nat → Nat) (l : Nat) (r : List Nat) (x : Nat) : Nat := 65536 * cst c r x + 8 + (if l = 0 then x else 0)
/-- a label: of all words from the start, the first one lowest -/
def wX (c : Nat → Nat → Nat) (set : Nat) (xs r : List Nat) : Nat := wt 65536 8 c set xs r + xs.headD 0
/-- labels, settled rows (both by rows) as the search holds them between its turns -/
def dij (c : Nat → Nat → Nat) (set : Nat) (s : List Nat) (lab : List Nat → Nat) (set2 : List Nat → Bool) : Prop :=
  lab s = 0 ∧
  (∀ r, okr (c 0 0) r → lab r < far → ∃ xs, (∀ x ∈ xs, x ≤ 6) ∧ go c set xs s = some r ∧ lab r = wX c set xs s) ∧
  (∀ r, okr (c 0 0) r → set2 r = true → lab r ≤ 18300000) ∧
  (∀ r x q, okr (c 0 0) r → set2 r = true → x ≤ 6 → af c set r x = some q → lab q ≤ lab r + ext c (lab r) r x) ∧
  ∀ r q, okr (c 0 0) r → okr (c 0 0) q → set2 r = true → set2 q = false → lab q < far → lab r ≤ lab q
theorem dij.zero {c : Nat → Nat → Nat} {set : Nat} {s : List Nat} {lab : List Nat → Nat} {D : List Nat → Bool} (h : dij c set s lab D) {r : List Nat} (hr : okr (c 0 0) r) (h0 : lab r = 0) : r = s := by
  obtain ⟨xs, h1, h2, h3⟩ := h.2.1 r hr (by rw [h0]; decide)
  cases xs with
  | nil => cases h2; rfl
  | cons x xs =>
    rw [h0] at h3
    unfold wX wt at h3
    simp only [List.length_cons] at h3
    omega
/-- along words from a settled row to one that isn't, an open one has no greater label -/
theorem dij.walk {c : Nat → Nat → Nat} (hc : okc c) {set : Nat} {s : List Nat} {lab : List Nat → Nat} {D : List Nat → Bool} (h : dij c set s lab D) : ∀ (xs : List Nat) (r q : List Nat) (W : Nat), okr (c 0 0) r → D r = true → (∀ x ∈ xs, x ≤ 6) → go c set xs r = some q → D q = false → lab r ≤ W → 8 ≤ W →
    ∃ v, okr (c 0 0) v ∧ D v = false ∧ lab v < far ∧ lab v ≤ W + wt 65536 8 c set xs r := by
  intro xs
  induction xs with
  | nil =>
    intro r q W hr hd _ hg hq _ _
    cases hg
    rw [hd] at hq
    exact absurd hq (by decide)
  | cons x xs ih =>
    intro r q W hr hd hx hg hq hw h8
    obtain ⟨p, h1, h2⟩ := go_uncons hg
    have hx6 := hx x List.mem_cons_self
    have hp := af_ok hr hx6 h1
    have k1 := h.2.2.2.1 r x p hr hd hx6 h1
    have k2 := cst_le hc hr hx6 h1
    have k3 := h.2.2.1 r hr hd
    have k4 : lab p ≤ W + (65536 * cst c r x + 8) := by
      unfold ext at k1
      by_cases h0 : lab r = 0
      · rw [if_pos h0] at k1; omega
      · rw [if_neg h0] at k1; omega
    have k5 : lab p < far := by
      unfold far
      unfold ext at k1
      split at k1 <;> omega
    cases hpd : D p with
    | false => exact ⟨p, hp, hpd, k5, by rw [wt_cons h1]; omega⟩
    | true =>
      obtain ⟨v, g1, g2, g3, g4⟩ := ih p q (W + (65536 * cst c r x + 8)) hp hpd (fun y hy => hx y (List.mem_cons_of_mem _ hy)) h2 hq k4 (by omega)
      exact ⟨v, g1, g2, g3, by rw [wt_cons h1]; omega⟩
theorem dij.walks {c : Nat → Nat → Nat} (hc : okc c) {set : Nat} {s : List Nat} (hs : okr (c 0 0) s) {lab : List Nat → Nat} {D : List Nat → Bool} (h : dij c set s lab D) {xs q : List Nat} (hx : ∀ x ∈ xs, x ≤ 6) (hg : go c set xs s = some q) (hq : D q = false) :
    ∃ v, okr (c 0 0) v ∧ D v = false ∧ lab v < far ∧ lab v ≤ wX c set xs s := by
  cases hsd : D s with
  | false => exact ⟨s, hs, hsd, by rw [h.1]; decide, by rw [h.1]; exact Nat.zero_le _⟩
  | true =>
    cases xs with
    | nil =>
      cases hg
      rw [hsd] at hq
      exact absurd hq (by decide)
    | cons x xs =>
      obtain ⟨p, h1, h2⟩ := go_uncons hg
      have hx6 := hx x List.mem_cons_self
      have hp := af_ok hs hx6 h1
      have k1 := h.2.2.2.1 s x p hs hsd hx6 h1
      have k2 := cst_le hc hs hx6 h1
      rw [h.1] at k1
      unfold ext at k1
      rw [if_pos rfl] at k1
      have e1 : wX c set (x :: xs) s = 65536 * cst c s x + 8 + x + wt 65536 8 c set xs p := by
        unfold wX
        rw [wt_cons h1]
        simp
        omega
      have k5 : lab p < far := by unfold far; omega
      cases hpd : D p with
      | false => exact ⟨p, hp, hpd, k5, by rw [e1]; omega⟩
      | true =>
        obtain ⟨v, g1, g2, g3, g4⟩ := h.walk hc xs p q (65536 * cst c s x + 8 + x) hp hpd (fun y hy => hx y (List.mem_cons_of_mem _ hy)) h2 hq (by omega) (by omega)
        exact ⟨v, g1, g2, g3, by rw [e1]; exact g4⟩
/-- the least open row's label is no greater than any words' to a row that isn't settled -/
theorem dij.least {c : Nat → Nat → Nat} (hc : okc c) {set : Nat} {s : List Nat} (hs : okr (c 0 0) s) {lab : List Nat → Nat} {D : List Nat → Bool} (h : dij c set s lab D) {u : List Nat} (hu : ∀ v, okr (c 0 0) v → D v = false → lab v < far → lab u ≤ lab v)
    {xs q : List Nat} (hx : ∀ x ∈ xs, x ≤ 6) (hg : go c set xs s = some q) (hq : D q = false) : lab u ≤ wX c set xs s := by
  obtain ⟨v, g1, g2, g3, g4⟩ := h.walks hc hs hx hg hq
  exact Nat.le_trans (hu v g1 g2 g3) g4
theorem wX_lt {c : Nat → Nat → Nat} {set : Nat} {xs ys r : List Nat} (hx : ∀ x ∈ xs, x ≤ 6) (hy : ∀ x ∈ ys, x ≤ 6) (h : wX c set xs r ≤ wX c set ys r) : wt 65536 8 c set xs r ≤ wt 65536 8 c set ys r ∧ (wt 65536 8 c set xs r = wt 65536 8 c set ys r → xs.headD 0 ≤ ys.headD 0) := by
  have a1 : xs.headD 0 ≤ 6 := by
    cases xs with
    | nil => exact Nat.zero_le _
    | cons x xs => exact hx x List.mem_cons_self
  have a2 : ys.headD 0 ≤ 6 := by
    cases ys with
    | nil => exact Nat.zero_le _
    | cons x xs => exact hy x List.mem_cons_self
  unfold wX at h
  unfold wt at h ⊢
  omega
/-- words to a row, the least: few -/
theorem wX_small {c : Nat → Nat → Nat} (hc : okc c) {set : Nat} {xs s q : List Nat} (hs : okr (c 0 0) s) (hx : ∀ x ∈ xs, x ≤ 6) (hg : go c set xs s = some q) (hl : ∀ ys, (∀ y ∈ ys, y ≤ 6) → go c set ys s = some q → wX c set xs s ≤ wX c set ys s) : best c set xs s q ∧ wX c set xs s ≤ 18300000 := by
  have hb : best c set xs s q := by
    refine ⟨hx, hg, fun ys h1 h2 h3 => ?_⟩
    have h4 := (wX_lt hx h1 (hl ys h1 h2)).1
    rcases Nat.lt_or_ge ys.length xs.length with h5 | h5
    · have := wt_le (A := 65536) (B := 8) h3 h5 (by decide)
      omega
    · exact h5
  refine ⟨hb, ?_⟩
  have h1 := best_len hb hs.1
  have h2 := gc_le hc hs hx hg
  have a1 : xs.headD 0 ≤ 6 := by
    cases xs with
    | nil => exact Nat.zero_le _
    | cons x xs => exact hx x List.mem_cons_self
  unfold wX wt
  omega
theorem dij.start {c : Nat → Nat → Nat} {set : Nat} {s : List Nat} : dij c set s (fun r => if r = s then 0 else far) (fun _ => false) := by
  refine ⟨if_pos rfl, fun r _ h => ?_, fun r _ h => ?_, fun r x q _ h => ?_, fun r q _ _ h => ?_⟩
  · by_cases he : r = s
    · subst he
      exact ⟨[], by simp, rfl, by show (if r = r then 0 else far) = _; rw [if_pos rfl]; rfl⟩
    · have h' : (if r = s then 0 else far) < far := h
      rw [if_neg he] at h'
      exact absurd h' (Nat.lt_irrefl _)
  all_goals exact absurd h (fun h => Bool.false_ne_true h)
/-- the labels when the row u, the least open one, is settled and some of its words are offered -/
def offd (c : Nat → Nat → Nat) (set : Nat) (u : List Nat) (lab : List Nat → Nat) : Nat → List Nat → Nat
  | 0 => lab
  | k + 1 => match af c set u k with
    | some q => fun r => if r = q then min (offd c set u lab k q) (lab u + ext c (lab u) u k) else offd c set u lab k r
    | none => offd c set u lab k
theorem offd_le {c : Nat → Nat → Nat} {set : Nat} {u : List Nat} {lab : List Nat → Nat} : ∀ (k : Nat) (r : List Nat), offd c set u lab k r ≤ lab r := by
  intro k
  induction k with
  | zero => intro r; exact Nat.le_refl _
  | succ k ih =>
    intro r
    unfold offd
    cases af c set u k with
    | none => exact ih r
    | some q =>
      dsimp only
      split
      · rename_i h
        subst h
        exact Nat.le_trans (Nat.min_le_left _ _) (ih _)
      · exact ih r
theorem offd_ge {c : Nat → Nat → Nat} {set : Nat} {u : List Nat} {lab : List Nat → Nat} : ∀ (k : Nat) (r : List Nat), offd c set u lab k r = lab r ∨ ∃ x, x < k ∧ af c set u x = some r ∧ offd c set u lab k r = lab u + ext c (lab u) u x := by
  intro k
  induction k with
  | zero => intro r; exact Or.inl rfl
  | succ k ih =>
    intro r
    unfold offd
    cases ha : af c set u k with
    | none =>
      rcases ih r with h | ⟨x, h1, h2, h3⟩
      · exact Or.inl h
      · exact Or.inr ⟨x, by omega, h2, h3⟩
    | some q =>
      dsimp only
      split
      · rename_i h
        subst h
        rcases Nat.le_total (offd c set u lab k r) (lab u + ext c (lab u) u k) with hm | hm
        · rw [Nat.min_eq_left hm]
          rcases ih r with h | ⟨x, h1, h2, h3⟩
          · exact Or.inl h
          · exact Or.inr ⟨x, by omega, h2, h3⟩
        · rw [Nat.min_eq_right hm]
          exact Or.inr ⟨k, by omega, ha, rfl⟩
      · rcases ih r with h | ⟨x, h1, h2, h3⟩
        · exact Or.inl h
        · exact Or.inr ⟨x, by omega, h2, h3⟩
theorem offd_ext {c : Nat → Nat → Nat} {set : Nat} {u : List Nat} {lab : List Nat → Nat} : ∀ (k x : Nat) (r : List Nat), x < k → af c set u x = some r → offd c set u lab k r ≤ lab u + ext c (lab u) u x := by
  intro k
  induction k with
  | zero => intro x r h; exact absurd h (Nat.not_lt_zero _)
  | succ k ih =>
    intro x r hx ha
    unfold offd
    by_cases hk : x = k
    · subst hk
      rw [ha]
      dsimp only
      rw [if_pos rfl]
      exact Nat.min_le_right _ _
    · have h1 := ih x r (by omega) ha
      cases af c set u k with
      | none => exact h1
      | some q =>
        dsimp only
        split
        · rename_i h
          subst h
          exact Nat.le_trans (Nat.min_le_left _ _) h1
        · exact h1
/-- what is settled, or the row itself, keeps its label -/
theorem offd_old {c : Nat → Nat → Nat} {set : Nat} {u : List Nat} {lab : List Nat → Nat} {k : Nat} {r : List Nat} (h : lab r ≤ lab u) : offd c set u lab k r = lab r := by
  have h1 := offd_le (c := c) (set := set) (u := u) (lab := lab) k r
  rcases offd_ge (c := c) (set := set) (u := u) (lab := lab) k r with h2 | ⟨x, _, _, h2⟩
  · exact h2
  · unfold ext at h2
    omega
theorem dij.step {c : Nat → Nat → Nat} (hc : okc c) {set : Nat} {s : List Nat} (hs : okr (c 0 0) s) {lab : List Nat → Nat} {D : List Nat → Bool} (h : dij c set s lab D) {u : List Nat} (huk : okr (c 0 0) u) (hud : D u = false) (huf : lab u < far)
    (hu : ∀ v, okr (c 0 0) v → D v = false → lab v < far → lab u ≤ lab v) : dij c set s (offd c set u lab 7) (fun r => D r || decide (r = u)) ∧ lab u ≤ 18300000 := by
  obtain ⟨xs, x1, x2, x3⟩ := h.2.1 u huk huf
  have hsm := wX_small hc hs x1 x2 (fun ys y1 y2 => by rw [← x3]; exact h.least hc hs hu y1 y2 hud)
  rw [← x3] at hsm
  have old : ∀ r, okr (c 0 0) r → (D r || decide (r = u)) = true → lab r ≤ lab u := by
    intro r hr hd
    rcases Bool.or_eq_true _ _ ▸ hd with hd | hd
    · exact h.2.2.2.2 r u hr huk hd hud huf
    · have : r = u := of_decide_eq_true hd
      rw [this]
      exact Nat.le_refl _
  refine ⟨⟨?_, ?_, ?_, ?_, ?_⟩, hsm.2⟩
  · have := offd_le (c := c) (set := set) (u := u) (lab := lab) 7 s
    rw [h.1] at this
    omega
  · intro r hr hf
    rcases offd_ge (c := c) (set := set) (u := u) (lab := lab) 7 r with h2 | ⟨x, hx, ha, h2⟩
    · rw [h2] at hf ⊢
      exact h.2.1 r hr hf
    · refine ⟨xs ++ [x], ?_, go_app x2 (go_cons ha rfl), ?_⟩
      · intro y hy
        rcases List.mem_append.mp hy with hy | hy
        · exact x1 y hy
        · rw [List.mem_singleton.mp hy]; omega
      · rw [h2]
        have e1 : wt 65536 8 c set (xs ++ [x]) s = wt 65536 8 c set xs s + (65536 * cst c u x + 8) := by
          unfold wt
          rw [gc_app x2, gc_cons ha, List.length_append]
          simp [gc]
          omega
        unfold wX
        rw [e1]
        unfold ext
        cases xs with
        | nil =>
          cases x2
          rw [h.1, if_pos rfl]
          simp [wt, gc]
        | cons y ys =>
          have hne : lab u ≠ 0 := by
            rw [x3]
            unfold wX wt
            simp
          rw [if_neg hne, x3]
          unfold wX
          simp
          omega
  · intro r hr hd
    have h1 := old r hr hd
    rw [offd_old h1]
    have := hsm.2
    omega
  · intro r x q hr hd hx ha
    have h1 := old r hr hd
    rw [offd_old h1]
    rcases Bool.or_eq_true _ _ ▸ hd with hd | hd
    · exact Nat.le_trans (offd_le 7 q) (h.2.2.2.1 r x q hr hd hx ha)
    · have he : r = u := of_decide_eq_true hd
      subst he
      exact offd_ext 7 x q (by omega) ha
  · intro r q hr hq hd hqd hf
    have h1 := old r hr hd
    rw [offd_old h1]
    rw [Bool.or_eq_false_iff] at hqd
    refine Nat.le_trans h1 ?_
    rcases offd_ge (c := c) (set := set) (u := u) (lab := lab) 7 q with h2 | ⟨x, hx, ha, h2⟩
    · rw [h2] at hf ⊢
      exact hu q hq hqd.1 hf
    · rw [h2]
      omega

/-! the least way: with two weights the same -/
theorem cst_le {c : Nat → Nat → Nat} (hc : okc c) {set x : Nat} {r q : List Nat} (hr : okr (c 0 0) r) (hx : x ≤ 6) (h : af c set r x = some q) : cst c r x ≤ 9 := by
  obtain ⟨c1, c2, c3, c4, c5, c6, c7, c8⟩ := hc
  rcases Nat.lt_or_ge x 5 with h5 | h5
  · obtain ⟨h1, rfl⟩ := af_lay h5 h
    unfold cst
    rw [if_pos h5]
    exact (c7 x h1.1).2.2.1
  · rcases (by omega : x = 5 ∨ x = 6) with rfl | rfl
    · obtain ⟨s, rfl, _⟩ := af_lift h
      exact (c7 s hr.hd).2.2.2
    · exact c4
theorem af_ok {c : Nat → Nat → Nat} {set x : Nat} {r q : List Nat} (hr : okr (c 0 0) r) (hx : x ≤ 6) (h : af c set r x = some q) : okr (c 0 0) q := by
  rcases Nat.lt_or_ge x 5 with h5 | h5
  · obtain ⟨h1, rfl⟩ := af_lay h5 h
    refine ⟨by simp; omega, fun z hz => ?_⟩
    rcases List.mem_cons.mp hz with rfl | hz
    · exact h1.1
    · exact hr.2 z hz
  · rcases (by omega : x = 5 ∨ x = 6) with rfl | rfl
    · obtain ⟨s, rfl, _⟩ := af_lift h
      exact hr.tl
    · obtain ⟨a, b, t, rfl, rfl, _⟩ := af_swap h
      refine ⟨by have := hr.1; simpa using this, fun z hz => hr.2 z ?_⟩
      simp at hz ⊢
      rcases hz with h | h | h
      · exact Or.inr (Or.inl h)
      · exact Or.inl h
      · exact Or.inr (Or.inr h)
theorem go_ok {c : Nat → Nat → Nat} {set : Nat} : ∀ {xs r q : List Nat}, okr (c 0 0) r → (∀ x ∈ xs, x ≤ 6) → go c set xs r = some q → okr (c 0 0) q := by
  intro xs
  induction xs with
  | nil => intro r q hr _ h; cases h; exact hr
  | cons x xs ih =>
    intro r q hr hx h
    obtain ⟨p, h1, h2⟩ := go_uncons h
    exact ih (af_ok hr (hx x List.mem_cons_self) h1) (fun y hy => hx y (List.mem_cons_of_mem _ hy)) h2
theorem gc_le {c : Nat → Nat → Nat} (hc : okc c) {set : Nat} : ∀ {xs r q : List Nat}, okr (c 0 0) r → (∀ x ∈ xs, x ≤ 6) → go c set xs r = some q → gc c set xs r ≤ 9 * xs.length := by
  intro xs
  induction xs with
  | nil => intro r q _ _ _; exact Nat.le_refl _
  | cons x xs ih =>
    intro r q hr hx h
    obtain ⟨p, h1, h2⟩ := go_uncons h
    have hx6 := hx x List.mem_cons_self
    have h3 := cst_le hc hr hx6 h1
    have h4 := ih (af_ok hr hx6 h1) (fun y hy => hx y (List.mem_cons_of_mem _ hy)) h2
    rw [gc_cons h1]
    simp
    omega
/-- words that lead to a row that works just so -/
def leads (c : Nat → Nat → Nat) (set e : Nat) (xs r : List Nat) : Prop := (∀ x ∈ xs, x ≤ 6) ∧ ∃ q, go c set xs r = some q ∧ wk c q = e
def wt (A B : Nat) (c : Nat → Nat → Nat) (set : Nat) (xs r : List Nat) : Nat := A * gc c set xs r + B * xs.length
/-- the least of all -/
def isD (A B : Nat) (c : Nat → Nat → Nat) (set e : Nat) (r : List Nat) (d : Nat) : Prop :=
  (∃ xs, leads c set e xs r ∧ d = wt A B c set xs r) ∧ ∀ xs, leads c set e xs r → d ≤ wt A B c set xs r
theorem isD.uniq {A B : Nat} {c : Nat → Nat → Nat} {set e : Nat} {r : List Nat} {d d2 : Nat} (h : isD A B c set e r d) (h2 : isD A B c set e r d2) : d = d2 := by
  obtain ⟨⟨xs, a1, a2⟩, a3⟩ := h
  obtain ⟨⟨ys, b1, b2⟩, b3⟩ := h2
  have := a3 ys b1
  have := b3 xs a1
  omega
theorem isD.ex {A B : Nat} {c : Nat → Nat → Nat} {set e : Nat} {r : List Nat} : ∀ (n : Nat) (xs : List Nat), wt A B c set xs r ≤ n → leads c set e xs r → ∃ d, isD A B c set e r d := by
  intro n
  induction n with
  | zero =>
    intro xs h hl
    exact ⟨wt A B c set xs r, ⟨xs, hl, rfl⟩, fun ys _ => by omega⟩
  | succ n ih =>
    intro xs h hl
    by_cases hx : ∃ ys, leads c set e ys r ∧ wt A B c set ys r ≤ n
    · obtain ⟨ys, h1, h2⟩ := hx
      exact ih ys h2 h1
    · by_cases h1 : wt A B c set xs r ≤ n
      · exact ih xs h1 hl
      · refine ⟨wt A B c set xs r, ⟨xs, hl, rfl⟩, fun ys hy => ?_⟩
        have : ¬ wt A B c set ys r ≤ n := fun h2 => hx ⟨ys, hy, h2⟩
        omega
theorem wt_le {A B : Nat} {c : Nat → Nat → Nat} {set : Nat} {xs ys r : List Nat} (h : gc c set ys r ≤ gc c set xs r) (h2 : ys.length < xs.length) (hB : 0 < B) : wt A B c set ys r < wt A B c set xs r := by
  unfold wt
  have h3 : A * gc c set ys r ≤ A * gc c set xs r := Nat.mul_le_mul_left A h
  have h4 : B * ys.length < B * xs.length := Nat.mul_lt_mul_of_pos_left h2 hB
  omega
theorem isD.best {A B : Nat} {c : Nat → Nat → Nat} {set e : Nat} {r xs q : List Nat} {d : Nat} (h : isD A B c set e r d) (hB : 0 < B) (hl : leads c set e xs r) (hg : go c set xs r = some q) (hd : d = wt A B c set xs r) : best c set xs r q := by
  refine ⟨hl.1, hg, fun ys h1 h2 h3 => ?_⟩
  obtain ⟨q2, g1, g2⟩ := hl.2
  have e1 : q2 = q := Option.some.inj (g1.symm.trans hg)
  subst e1
  have h4 := h.2 ys ⟨h1, q2, h2, g2⟩
  rcases Nat.lt_or_ge ys.length xs.length with h5 | h5
  · have := wt_le (A := A) (B := B) h3 h5 hB
    omega
  · exact h5
theorem isD.short {A B : Nat} {c : Nat → Nat → Nat} {set e : Nat} {r xs : List Nat} {d : Nat} (h : isD A B c set e r d) (hB : 0 < B) (hl : leads c set e xs r) (hd : d = wt A B c set xs r) (hr : r.length ≤ 5) : xs.length ≤ 31 := by
  obtain ⟨q, h1, h2⟩ := hl.2
  exact best_len (h.best hB hl h1 hd) hr
/-- what is least by one weight is least by the other -/
theorem isD.two {c : Nat → Nat → Nat} {set e : Nat} {r xs ys : List Nat} {A B A2 B2 d d2 : Nat} (h : isD A B c set e r d) (h2 : isD A2 B2 c set e r d2) (hB : 0 < B) (hB2 : 0 < B2) (hA : B * 31 < A) (hA2 : B2 * 31 < A2) (hr : r.length ≤ 5)
    (hl : leads c set e xs r) (hd : d = wt A B c set xs r) (hl2 : leads c set e ys r) (hd2 : d2 = wt A2 B2 c set ys r) : gc c set xs r = gc c set ys r ∧ xs.length = ys.length := by
  have h3 := h.short hB hl hd hr
  have h4 := h2.short hB2 hl2 hd2 hr
  have h5 := h.2 ys hl2
  have h6 := h2.2 xs hl
  rw [hd] at h5
  rw [hd2] at h6
  unfold wt at h5 h6
  have k1 : B * ys.length ≤ B * 31 := Nat.mul_le_mul_left B h4
  have k2 : B2 * xs.length ≤ B2 * 31 := Nat.mul_le_mul_left B2 h3
  have e1 : gc c set xs r = gc c set ys r := by
    rcases Nat.lt_trichotomy (gc c set xs r) (gc c set ys r) with hlt | heq | hgt
    · have k3 : A2 * (gc c set xs r + 1) ≤ A2 * gc c set ys r := Nat.mul_le_mul_left A2 hlt
      rw [Nat.mul_succ] at k3
      omega
    · exact heq
    · have k3 : A * (gc c set ys r + 1) ≤ A * gc c set xs r := Nat.mul_le_mul_left A hgt
      rw [Nat.mul_succ] at k3
      omega
  refine ⟨e1, ?_⟩
  rw [e1] at h5 h6
  have k4 : xs.length ≤ ys.length := Nat.le_of_mul_le_mul_left (by omega : B * xs.length ≤ B * ys.length) hB
  have k5 : ys.length ≤ xs.length := Nat.le_of_mul_le_mul_left (by omega : B2 * ys.length ≤ B2 * xs.length) hB2
  omega
theorem leads.tl {c : Nat → Nat → Nat} {set e x : Nat} {xs r q : List Nat} (h : leads c set e (x :: xs) r) (ha : af c set r x = some q) : leads c set e xs q := by
  obtain ⟨p, h1, h2⟩ := h.2
  obtain ⟨p2, h3, h4⟩ := go_uncons h1
  have e1 : p2 = q := Option.some.inj (h3.symm.trans ha)
  subst e1
  exact ⟨fun y hy => h.1 y (List.mem_cons_of_mem _ hy), p, h4, h2⟩
theorem leads.cons {c : Nat → Nat → Nat} {set e x : Nat} {xs r q : List Nat} (hx : x ≤ 6) (ha : af c set r x = some q) (h : leads c set e xs q) : leads c set e (x :: xs) r := by
  obtain ⟨p, h1, h2⟩ := h.2
  refine ⟨fun y hy => ?_, p, go_cons ha h1, h2⟩
  rcases List.mem_cons.mp hy with rfl | hy
  · exact hx
  · exact h.1 y hy
theorem wt_cons {A B : Nat} {c : Nat → Nat → Nat} {set x : Nat} {xs r q : List Nat} (h : af c set r x = some q) : wt A B c set (x :: xs) r = wt A B c set xs q + (A * cst c r x + B) := by
  unfold wt
  rw [gc_cons h, Nat.mul_add, List.length_cons, Nat.mul_succ]
  omega
/-- a table of ways that no word betters holds the least ones -/
def fixt (c : Nat → Nat → Nat) (set e : Nat) (W : List Nat → Nat) : Prop :=
  (∀ r, okr (c 0 0) r → W r ≤ 1000000) ∧
  (∀ r, okr (c 0 0) r → W r < 1000000 → ∃ xs, leads c set e xs r ∧ W r = wt 1000 1 c set xs r) ∧
  (∀ r, okr (c 0 0) r → wk c r = e → W r = 0) ∧
  ∀ r x q, okr (c 0 0) r → x ≤ 6 → af c set r x = some q → W q < 1000000 → W r ≤ W q + (1000 * cst c r x + 1)
theorem fixt.le {c : Nat → Nat → Nat} (hc : okc c) {set e : Nat} {W : List Nat → Nat} (h : fixt c set e W) : ∀ (xs r : List Nat), okr (c 0 0) r → leads c set e xs r → xs.length ≤ 31 → W r ≤ wt 1000 1 c set xs r ∧ wt 1000 1 c set xs r ≤ 9001 * xs.length := by
  intro xs
  induction xs with
  | nil =>
    intro r hr hl _
    obtain ⟨q, h1, h2⟩ := hl.2
    cases h1
    rw [h.2.2.1 r hr h2]
    exact ⟨Nat.zero_le _, by simp [wt, gc]⟩
  | cons x xs ih =>
    intro r hr hl hn
    obtain ⟨p, h1, h2⟩ := hl.2
    obtain ⟨q, h3, h4⟩ := go_uncons h1
    have hx := hl.1 x List.mem_cons_self
    simp only [List.length_cons] at hn ⊢
    obtain ⟨k1, k2⟩ := ih q (af_ok hr hx h3) (hl.tl h3) (by omega)
    have k3 := h.2.2.2 r x q hr hx h3 (by omega)
    have k4 := cst_le hc hr hx h3
    rw [wt_cons h3]
    omega
theorem fixt.isD {c : Nat → Nat → Nat} (hc : okc c) {set e : Nat} {W : List Nat → Nat} (h : fixt c set e W) {r : List Nat} (hr : okr (c 0 0) r) : (W r < 1000000 ∧ isD 1000 1 c set e r (W r)) ∨ (W r = 1000000 ∧ ∀ xs, ¬ leads c set e xs r) := by
  by_cases hx : ∃ xs, leads c set e xs r
  · obtain ⟨xs, hx⟩ := hx
    obtain ⟨d, hd⟩ := isD.ex (A := 1000) (B := 1) (wt 1000 1 c set xs r) xs (Nat.le_refl _) hx
    obtain ⟨ys, h1, h2⟩ := hd.1
    have h3 := hd.short (by decide) h1 h2 hr.1
    obtain ⟨k1, k2⟩ := h.le hc ys r hr h1 h3
    have k3 : W r < 1000000 := by omega
    obtain ⟨zs, g1, g2⟩ := h.2.1 r hr k3
    have g3 := hd.2 zs g1
    have e1 : W r = d := by omega
    exact Or.inl ⟨k3, by rw [e1]; exact hd⟩
  · right
    refine ⟨?_, fun xs hl => hx ⟨xs, hl⟩⟩
    have h1 := h.1 r hr
    rcases Nat.lt_or_ge (W r) 1000000 with h2 | h2
    · obtain ⟨xs, h3, _⟩ := h.2.1 r hr h2
      exact absurd ⟨xs, h3⟩ hx
    · omega

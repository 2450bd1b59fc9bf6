/-! the cheapest: both sides find the same -/
section CHEAP
variable {c : Nat → Nat → Nat} {set e : Nat}
theorem cheap_isD {s xs : List Nat} (hl : leads c set e xs s) (hm : ∀ ys, leads c set e ys s → wX c set xs s ≤ wX c set ys s) : isD 65536 8 c set e s (wt 65536 8 c set xs s) :=
  ⟨⟨xs, hl, rfl⟩, fun ys hy => (wX_lt hl.1 hy.1 (hm ys hy)).1⟩
theorem cheap_same (hc : okc c) {W : List Nat → Nat} (hW : fixt c set e W) {s xs : List Nat} (hs : okr (c 0 0) s) (hl : leads c set e xs s) (hm : ∀ ys, leads c set e ys s → wX c set xs s ≤ wX c set ys s) :
    W s < 1000000 ∧ W s = wt 1000 1 c set xs s ∧ xs.length ≤ 31 ∧ gc c set xs s ≤ 279 := by
  have h1 := cheap_isD hl hm
  rcases hW.isD hc hs with ⟨k1, k2⟩ | ⟨_, k2⟩
  · obtain ⟨ys, y1, y2⟩ := k2.1
    obtain ⟨a, b⟩ := h1.two k2 (by decide) (by decide) (by decide) (by decide) hs.1 hl rfl y1 y2
    have h3 := h1.short (by decide) hl rfl hs.1
    obtain ⟨q, q1, q2⟩ := hl.2
    have h4 := gc_le hc hs hl.1 q1
    refine ⟨k1, ?_, h3, by omega⟩
    rw [y2]
    unfold wt
    rw [a, b]
  · exact absurd hl (k2 xs)
theorem cheap_nums (hc : okc c) {W : List Nat → Nat} (hW : fixt c set e W) {s xs : List Nat} (hs : okr (c 0 0) s) (hl : leads c set e xs s) (hm : ∀ ys, leads c set e ys s → wX c set xs s ≤ wX c set ys s) :
    wX c set xs s / 65536 = W s / 1000 ∧ (wX c set xs s % 65536 < 8 ↔ W s = 0) ∧ (¬ wX c set xs s % 65536 < 8 → wX c set xs s % 8 = xs.headD 0) ∧ wX c set xs s < far := by
  obtain ⟨a1, a2, a3, a4⟩ := cheap_same hc hW hs hl hm
  have a5 : xs.headD 0 ≤ 6 := by
    cases xs with
    | nil => exact Nat.zero_le _
    | cons x xs => exact hl.1 x List.mem_cons_self
  rw [a2]
  have e0 : xs = [] → gc c set xs s = 0 ∧ xs.headD 0 = 0 := fun h => by rw [h]; exact ⟨rfl, rfl⟩
  have e1 : xs.length = 0 → xs = [] := List.eq_nil_of_length_eq_zero
  have e2 : xs.length = 0 → gc c set xs s = 0 ∧ xs.headD 0 = 0 := fun h => e0 (e1 h)
  unfold wX wt far
  generalize gc c set xs s = g at *
  generalize xs.headD 0 = f at *
  generalize xs.length = n at *
  refine ⟨by omega, ⟨fun h => ?_, fun h => ?_⟩, fun _ => by omega, by omega⟩
  · have hn : n = 0 := by omega
    obtain ⟨g0, _⟩ := e2 hn
    omega
  · have hn : n = 0 := by omega
    obtain ⟨g0, f0⟩ := e2 hn
    omega
/-- the first word: the least that goes on at the least cost -/
theorem cheap_first (hc : okc c) {W : List Nat → Nat} (hW : fixt c set e W) {s xs : List Nat} (hs : okr (c 0 0) s) (hl : leads c set e xs s) (hm : ∀ ys, leads c set e ys s → wX c set xs s ≤ wX c set ys s) (hn : W s ≠ 0) :
    (∃ q, xs.headD 0 ≤ 6 ∧ af c set s (xs.headD 0) = some q ∧ W q < 1000000 ∧ W q + (1000 * cst c s (xs.headD 0) + 1) = W s) ∧
    ∀ x q, x ≤ 6 → af c set s x = some q → W q < 1000000 → W q + (1000 * cst c s x + 1) = W s → xs.headD 0 ≤ x := by
  obtain ⟨a1, a2, a3, a4⟩ := cheap_same hc hW hs hl hm
  have h1 := cheap_isD hl hm
  refine ⟨?_, fun x q hx ha hf he => ?_⟩
  · cases xs with
    | nil =>
      exfalso
      apply hn
      rw [a2]
      rfl
    | cons x xs =>
      have hx := hl.1 x List.mem_cons_self
      obtain ⟨p, p1, p2⟩ := hl.2
      obtain ⟨q, q1, q2⟩ := go_uncons p1
      have hq := af_ok hs hx q1
      have hlq := hl.tl q1
      rw [wt_cons q1] at a2
      rcases hW.isD hc hq with ⟨k1, k2⟩ | ⟨_, k2⟩
      · have b1 := k2.2 xs hlq
        have b2 := hW.2.2.2 s x q hs hx q1 k1
        exact ⟨q, hx, q1, k1, by show W q + (1000 * cst c s x + 1) = W s; omega⟩
      · exact absurd hlq (k2 xs)
  · have hq := af_ok hs hx ha
    obtain ⟨zs, z1, z2⟩ := hW.2.1 q hq hf
    have hlz := leads.cons hx ha z1
    have hwz : W s = wt 1000 1 c set (x :: zs) s := by rw [wt_cons ha, ← z2]; exact he.symm
    have hD : isD 1000 1 c set e s (W s) := by
      rcases hW.isD hc hs with ⟨_, k2⟩ | ⟨_, k2⟩
      · exact k2
      · exact absurd hl (k2 xs)
    obtain ⟨g1, g2⟩ := h1.two hD (by decide) (by decide) (by decide) (by decide) hs.1 hl rfl hlz hwz
    have hx2 := hm _ hlz
    exact (wX_lt hl.1 hlz.1 hx2).2 (by unfold wt; rw [g1, g2])
end CHEAP

/-! what a text tells: items out of tokens -/
def upC (c : Nat → Nat → Nat) (i j v : Nat) : Nat → Nat → Nat := fun a b => if a = i ∧ b = j then v else c a b
theorem upC_e {c : Nat → Nat → Nat} {i j v : Nat} : upC c i j v i j = v := if_pos ⟨rfl, rfl⟩
theorem upC_i {c : Nat → Nat → Nat} {i j v a b : Nat} (h : a ≠ i) : upC c i j v a b = c a b := if_neg (fun k => h k.1)
theorem upC_j {c : Nat → Nat → Nat} {i j v a b : Nat} (h : b ≠ j) : upC c i j v a b = c a b := if_neg (fun k => h k.2)
/-- a draft: the school (row 6: which of swap, copy, hum were told), the things' rows -/
abbrev Dr : Type := (Nat → Nat → Nat) × (Nat → List Nat)
/-- the item that is open (0: none), its numbers so far, the newest first, the draft, how many items -/
abbrev PS : Type := Nat × List Nat × Dr × Nat
def canNx (c : Nat → Nat → Nat) (k : Nat) (ns : List Nat) (v : Nat) : Bool :=
  if k = 4 then decide (ns.length < 4 ∧ v ≤ (if ns.length = 1 then 1 else 9)) else if k = 5 then decide (ns.length < 5 ∧ v < c 0 0) else if k = 6 then decide (ns.length < 1 ∧ v < 2 ^ c 0 0) else if k = 7 ∨ k = 8 then decide (ns.length < 1 ∧ v ≤ 9) else if k = 9 then decide (ns.length < 1 ∧ (1 ≤ v ∧ v ≤ 5)) else false
def canOp (c : Nat → Nat → Nat) (k : Nat) : Bool :=
  if k = 4 then decide (c 0 0 < 5) else if k = 5 then decide (c 0 1 < 4) else if k = 6 then decide (c 0 2 < 3) else decide (c 6 k = 0)
def whl (k : Nat) (ns : List Nat) : Bool := decide (k = 5 ∨ ns.length = if k = 4 then 4 else 1)
def tellD (k : Nat) (ns : List Nat) (D : Dr) : Dr :=
  if k = 4 then (upC (upC (upC (upC (upC D.1 1 (D.1 0 0) (ns.getD 3 0)) 2 (D.1 0 0) (ns.getD 2 0)) 3 (D.1 0 0) (ns.getD 1 0)) 4 (D.1 0 0) (ns.getD 0 0)) 0 0 (D.1 0 0 + 1), D.2)
  else if k = 5 then (upC D.1 0 1 (D.1 0 1 + 1), upR D.2 (D.1 0 1) ns)
  else if k = 6 then (upC (upC D.1 5 (D.1 0 2) (ns.getD 0 0)) 0 2 (D.1 0 2 + 1), D.2)
  else (upC (upC D.1 0 (k - 4) (ns.getD 0 0)) 6 k 1, D.2)
def stepP (k v : Nat) (S : PS) : Option PS :=
  if k < 2 then none
  else if k = 2 then (if S.1 ≠ 0 ∧ whl S.1 S.2.1 = true then some (0, S.2.1, tellD S.1 S.2.1 S.2.2.1, S.2.2.2 + 1) else none)
  else if k = 3 then (if canNx S.2.2.1.1 S.1 S.2.1 v = true then some (S.1, v :: S.2.1, S.2.2.1, S.2.2.2) else none)
  else if S.1 = 0 ∧ canOp S.2.2.1.1 k = true then some (k, [], S.2.2.1, S.2.2.2) else none
/-- a text read: the fault's place, or what it tells -/
def prs (bt : Nat → Nat) (n : Nat) : Nat → Nat → PS → Nat ⊕ PS
  | 0, _, _ => .inl n
  | m + 1, i, S => if tkK bt n i = 1 ∧ S.1 = 0 then .inr S else match stepP (tkK bt n i) (tkV bt n i) S with
    | none => .inl (tkS bt n i)
    | some S2 => prs bt n m (tkE bt n i) S2
def bgD : Dr := (fun a b => if a = 0 then (if b = 3 then 1 else if b = 4 then 1 else if b = 5 then 4 else 0) else 0, fun _ => [])
def okD (D : Dr) : Prop := okc D.1 ∧ (∀ t, t < 4 → okr (D.1 0 0) (D.2 t)) ∧ (∀ t, D.1 0 1 ≤ t → D.2 t = []) ∧ ∀ j, 7 ≤ j → j ≤ 9 → D.1 6 j ≤ 1 ∧ (D.1 6 j = 0 → D.1 0 (j - 4) = if j = 9 then 4 else 1)
def okN (c : Nat → Nat → Nat) (k : Nat) : List Nat → Prop
  | [] => True
  | v :: ns => canNx c k ns v = true ∧ okN c k ns
def okS (S : PS) : Prop := okD S.2.2.1 ∧ (S.1 = 0 ∨ (4 ≤ S.1 ∧ S.1 ≤ 9) ∧ canOp S.2.2.1.1 S.1 = true ∧ okN S.2.2.1.1 S.1 S.2.1)
theorem okD_new : okD bgD := by
  refine ⟨⟨by decide, by decide, by decide, by decide, by decide, by decide, fun s h => absurd h (Nat.not_lt_zero _), fun s h => absurd h (Nat.not_lt_zero _)⟩, fun t _ => okr.nil, fun _ _ => rfl, fun j h1 h2 => ⟨Nat.zero_le _, fun _ => ?_⟩⟩
  rcases (by omega : j = 7 ∨ j = 8 ∨ j = 9) with rfl | rfl | rfl <;> rfl
theorem canNx5 {c : Nat → Nat → Nat} {k v : Nat} {ns : List Nat} (h : canNx c k ns v = true) : ns.length < 5 := by
  unfold canNx at h
  split at h
  · have := (of_decide_eq_true h).1; omega
  · split at h
    · exact (of_decide_eq_true h).1
    · split at h
      · have := (of_decide_eq_true h).1; omega
      · split at h
        · have := (of_decide_eq_true h).1; omega
        · split at h
          · have := (of_decide_eq_true h).1; omega
          · exact absurd h (by decide)
theorem okN_len {c : Nat → Nat → Nat} {k : Nat} : ∀ {ns : List Nat}, okN c k ns → ns.length ≤ 5 := by
  intro ns h
  cases ns with
  | nil => exact Nat.zero_le _
  | cons v ns =>
    have := canNx5 h.1
    simp only [List.length_cons]
    omega
theorem okN_row {c : Nat → Nat → Nat} : ∀ {ns : List Nat}, okN c 5 ns → ∀ s ∈ ns, s < c 0 0 := by
  intro ns
  induction ns with
  | nil => intro _ s h; exact absurd h List.not_mem_nil
  | cons v ns ih =>
    intro h s hs
    rcases List.mem_cons.mp hs with rfl | hs
    · exact (of_decide_eq_true h.1).2
    · exact ih h.2 s hs
theorem okc_up {c : Nat → Nat → Nat} {x : Nat} {k : Nat} (h : okc c) (hk : 7 ≤ k) (hk2 : k ≤ 9) (hx : if k = 9 then 1 ≤ x ∧ x ≤ 5 else x ≤ 9) : okc (upC (upC c 0 (k - 4) x) 6 k 1) := by
  have e : ∀ a b, a ≠ 6 → ¬ (a = 0 ∧ b = k - 4) → upC (upC c 0 (k - 4) x) 6 k 1 a b = c a b := fun a b h1 h2 => by
    rw [upC_i h1]
    exact if_neg h2
  have e2 : upC (upC c 0 (k - 4) x) 6 k 1 0 (k - 4) = x := by rw [upC_i (by decide), upC_e]
  obtain ⟨h0, h1, h2, h3, h4, h5, h6, h7⟩ := h
  have f0 := e 0 0 (by decide) (by omega)
  have f1 := e 0 1 (by decide) (by omega)
  have f2 := e 0 2 (by decide) (by omega)
  refine ⟨by rw [f0]; exact h0, by rw [f1]; exact h1, by rw [f2]; exact h2, ?_, ?_, ?_, fun s hs => ?_, fun q hq => ?_⟩
  · rcases (by omega : k = 7 ∨ k ≠ 7) with rfl | g
    · rw [if_neg (by decide)] at hx
      rw [show (3 : Nat) = 7 - 4 by decide, e2]
      exact hx
    · rw [e 0 3 (by decide) (by omega)]; exact h3
  · rcases (by omega : k = 8 ∨ k ≠ 8) with rfl | g
    · rw [if_neg (by decide)] at hx
      rw [show (4 : Nat) = 8 - 4 by decide, e2]
      exact hx
    · rw [e 0 4 (by decide) (by omega)]; exact h4
  · rcases (by omega : k = 9 ∨ k ≠ 9) with rfl | g
    · rw [if_pos rfl] at hx
      rw [show (5 : Nat) = 9 - 4 by decide, e2]
      exact hx
    · rw [e 0 5 (by decide) (by omega)]; exact h5
  · rw [f0] at hs
    rw [e 1 s (by decide) (by omega), e 2 s (by decide) (by omega), e 3 s (by decide) (by omega), e 4 s (by decide) (by omega)]
    exact h6 s hs
  · rw [f2] at hq
    rw [f0, e 5 q (by decide) (by omega)]
    exact h7 q hq
theorem tell_ok {k : Nat} {ns : List Nat} {D : Dr} (h : okD D) (hk : 4 ≤ k ∧ k ≤ 9) (ho : canOp D.1 k = true) (hn : okN D.1 k ns) (hw : whl k ns = true) : okD (tellD k ns D) := by
  obtain ⟨hc, hr, hz, h6⟩ := h
  have hw := of_decide_eq_true hw
  obtain ⟨c0, c1, c2, c3, c4, c5, c7, c8⟩ := id hc
  unfold tellD
  rcases (by omega : k = 4 ∨ k = 5 ∨ k = 6 ∨ 7 ≤ k) with rfl | rfl | rfl | h7
  · rw [if_pos rfl]
    have g0 : D.1 0 0 < 5 := of_decide_eq_true ho
    have gl : ns.length = 4 := hw.elim (fun h => absurd h (by decide)) id
    match ns, gl, hn with
    | [f, l, g, e], _, hn =>
      have n1 : f ≤ 9 := (of_decide_eq_true hn.1).2
      have n2 : l ≤ 9 := (of_decide_eq_true hn.2.1).2
      have n3 : g ≤ 1 := (of_decide_eq_true hn.2.2.1).2
      have n4 : e ≤ 9 := (of_decide_eq_true hn.2.2.2.1).2
      show okD (upC (upC (upC (upC (upC D.1 1 (D.1 0 0) e) 2 (D.1 0 0) g) 3 (D.1 0 0) l) 4 (D.1 0 0) f) 0 0 (D.1 0 0 + 1), D.2)
      have z0 : ∀ b, b ≠ 0 → upC (upC (upC (upC (upC D.1 1 (D.1 0 0) e) 2 (D.1 0 0) g) 3 (D.1 0 0) l) 4 (D.1 0 0) f) 0 0 (D.1 0 0 + 1) 0 b = D.1 0 b := fun b hb => by
        rw [upC_j hb, upC_i (by decide), upC_i (by decide), upC_i (by decide), upC_i (by decide)]
      have z00 : upC (upC (upC (upC (upC D.1 1 (D.1 0 0) e) 2 (D.1 0 0) g) 3 (D.1 0 0) l) 4 (D.1 0 0) f) 0 0 (D.1 0 0 + 1) 0 0 = D.1 0 0 + 1 := upC_e
      have zz : ∀ a b, 5 ≤ a → upC (upC (upC (upC (upC D.1 1 (D.1 0 0) e) 2 (D.1 0 0) g) 3 (D.1 0 0) l) 4 (D.1 0 0) f) 0 0 (D.1 0 0 + 1) a b = D.1 a b := fun a b ha => by
        rw [upC_i (by omega), upC_i (by omega), upC_i (by omega), upC_i (by omega), upC_i (by omega)]
      have hc' : okc (upC (upC (upC (upC (upC D.1 1 (D.1 0 0) e) 2 (D.1 0 0) g) 3 (D.1 0 0) l) 4 (D.1 0 0) f) 0 0 (D.1 0 0 + 1)) := by
        refine ⟨by rw [z00]; omega, by rw [z0 1 (by decide)]; exact c1, by rw [z0 2 (by decide)]; exact c2, by rw [z0 3 (by decide)]; exact c3, by rw [z0 4 (by decide)]; exact c4, by rw [z0 5 (by decide)]; exact c5, fun s hs => ?_, fun q hq => ?_⟩
        · rw [z00] at hs
          by_cases es : s = D.1 0 0
          · rw [es]
            rw [upC_i (by decide), upC_i (by decide), upC_i (by decide), upC_i (by decide), upC_e, upC_i (by decide), upC_i (by decide), upC_i (by decide), upC_e, upC_i (by decide), upC_i (by decide), upC_e, upC_i (by decide), upC_e]
            exact ⟨n4, n3, n2, n1⟩
          · rw [upC_i (by decide), upC_j es, upC_j es, upC_j es, upC_j es, upC_i (by decide), upC_j es, upC_j es, upC_j es, upC_j es, upC_i (by decide), upC_j es, upC_j es, upC_j es, upC_j es, upC_i (by decide), upC_j es, upC_j es, upC_j es, upC_j es]
            exact c7 s (by omega)
        · rw [z0 2 (by decide)] at hq
          rw [zz 5 q (by decide), z00]
          have := c8 q hq
          rw [Nat.pow_succ]
          omega
      refine ⟨hc', fun t ht => ?_, fun t ht => ?_, fun j j1 j2 => ?_⟩
      · show okr ((upC (upC (upC (upC (upC D.1 1 (D.1 0 0) e) 2 (D.1 0 0) g) 3 (D.1 0 0) l) 4 (D.1 0 0) f) 0 0 (D.1 0 0 + 1)) 0 0) (D.2 t)
        rw [upC_e]
        exact (hr t ht).up (Nat.le_succ _)
      · have ht : (upC (upC (upC (upC (upC D.1 1 (D.1 0 0) e) 2 (D.1 0 0) g) 3 (D.1 0 0) l) 4 (D.1 0 0) f) 0 0 (D.1 0 0 + 1)) 0 1 ≤ t := ht
        rw [z0 1 (by decide)] at ht
        exact hz t ht
      · show (upC (upC (upC (upC (upC D.1 1 (D.1 0 0) e) 2 (D.1 0 0) g) 3 (D.1 0 0) l) 4 (D.1 0 0) f) 0 0 (D.1 0 0 + 1)) 6 j ≤ 1 ∧ ((upC (upC (upC (upC (upC D.1 1 (D.1 0 0) e) 2 (D.1 0 0) g) 3 (D.1 0 0) l) 4 (D.1 0 0) f) 0 0 (D.1 0 0 + 1)) 6 j = 0 → (upC (upC (upC (upC (upC D.1 1 (D.1 0 0) e) 2 (D.1 0 0) g) 3 (D.1 0 0) l) 4 (D.1 0 0) f) 0 0 (D.1 0 0 + 1)) 0 (j - 4) = _)
        rw [zz 6 j (by decide), z0 (j - 4) (by omega)]
        exact h6 j j1 j2
  · rw [if_neg (by decide), if_pos rfl]
    have g1 : D.1 0 1 < 4 := of_decide_eq_true ho
    have z0 : ∀ a b, ¬ (a = 0 ∧ b = 1) → upC D.1 0 1 (D.1 0 1 + 1) a b = D.1 a b := fun a b hb => if_neg hb
    have rw5 : okr (D.1 0 0) ns := ⟨okN_len hn, okN_row hn⟩
    have hc' : okc (upC D.1 0 1 (D.1 0 1 + 1)) := by
      refine ⟨by rw [z0 0 0 (by omega)]; exact c0, by show upC D.1 0 1 (D.1 0 1 + 1) 0 1 ≤ 4; rw [upC_e]; omega, by rw [z0 0 2 (by omega)]; exact c2, by rw [z0 0 3 (by omega)]; exact c3, by rw [z0 0 4 (by omega)]; exact c4, by rw [z0 0 5 (by omega)]; exact c5, fun s hs => ?_, fun q hq => ?_⟩
      · rw [z0 0 0 (by omega)] at hs
        rw [z0 1 s (by omega), z0 2 s (by omega), z0 3 s (by omega), z0 4 s (by omega)]
        exact c7 s hs
      · rw [z0 0 2 (by omega)] at hq
        rw [z0 5 q (by omega), z0 0 0 (by omega)]
        exact c8 q hq
    refine ⟨hc', fun t ht => ?_, fun t ht => ?_, fun j j1 j2 => ?_⟩
    · show okr (upC D.1 0 1 (D.1 0 1 + 1) 0 0) (upR D.2 (D.1 0 1) ns t)
      rw [z0 0 0 (by omega)]
      unfold upR
      split
      · exact rw5
      · exact hr t ht
    · have ht : upC D.1 0 1 (D.1 0 1 + 1) 0 1 ≤ t := ht
      rw [upC_e] at ht
      show upR D.2 (D.1 0 1) ns t = []
      unfold upR
      rw [if_neg (by omega)]
      exact hz t (by omega)
    · show upC D.1 0 1 (D.1 0 1 + 1) 6 j ≤ 1 ∧ (upC D.1 0 1 (D.1 0 1 + 1) 6 j = 0 → upC D.1 0 1 (D.1 0 1 + 1) 0 (j - 4) = _)
      rw [z0 6 j (by omega), z0 0 (j - 4) (by omega)]
      exact h6 j j1 j2
  · rw [if_neg (by decide), if_neg (by decide), if_pos rfl]
    have g1 : D.1 0 2 < 3 := of_decide_eq_true ho
    have gl : ns.length = 1 := hw.elim (fun h => absurd h (by decide)) id
    match ns, gl, hn with
    | [v], _, hn =>
      have n1 : v < 2 ^ D.1 0 0 := (of_decide_eq_true hn.1).2
      show okD (upC (upC D.1 5 (D.1 0 2) v) 0 2 (D.1 0 2 + 1), D.2)
      have z0 : ∀ a b, ¬ (a = 0 ∧ b = 2) → a ≠ 5 → upC (upC D.1 5 (D.1 0 2) v) 0 2 (D.1 0 2 + 1) a b = D.1 a b := fun a b hb ha => (if_neg hb).trans (upC_i ha)
      have hc' : okc (upC (upC D.1 5 (D.1 0 2) v) 0 2 (D.1 0 2 + 1)) := by
        refine ⟨by rw [z0 0 0 (by omega) (by decide)]; exact c0, by rw [z0 0 1 (by omega) (by decide)]; exact c1, by show (upC (upC D.1 5 (D.1 0 2) v) 0 2 (D.1 0 2 + 1)) 0 2 ≤ 3; rw [upC_e]; omega, by rw [z0 0 3 (by omega) (by decide)]; exact c3, by rw [z0 0 4 (by omega) (by decide)]; exact c4, by rw [z0 0 5 (by omega) (by decide)]; exact c5, fun s hs => ?_, fun q hq => ?_⟩
        · rw [z0 0 0 (by omega) (by decide)] at hs
          rw [z0 1 s (by omega) (by decide), z0 2 s (by omega) (by decide), z0 3 s (by omega) (by decide), z0 4 s (by omega) (by decide)]
          exact c7 s hs
        · have hq : q < upC (upC D.1 5 (D.1 0 2) v) 0 2 (D.1 0 2 + 1) 0 2 := hq
          rw [upC_e] at hq
          rw [z0 0 0 (by omega) (by decide), upC_i (by decide)]
          by_cases eq : q = D.1 0 2
          · rw [eq, upC_e]; exact n1
          · rw [upC_j eq]; exact c8 q (by omega)
      refine ⟨hc', fun t ht => ?_, fun t ht => ?_, fun j j1 j2 => ?_⟩
      · show okr ((upC (upC D.1 5 (D.1 0 2) v) 0 2 (D.1 0 2 + 1)) 0 0) (D.2 t)
        rw [z0 0 0 (by omega) (by decide)]
        exact hr t ht
      · have ht : upC (upC D.1 5 (D.1 0 2) v) 0 2 (D.1 0 2 + 1) 0 1 ≤ t := ht
        rw [z0 0 1 (by omega) (by decide)] at ht
        exact hz t ht
      · show (upC (upC D.1 5 (D.1 0 2) v) 0 2 (D.1 0 2 + 1)) 6 j ≤ 1 ∧ ((upC (upC D.1 5 (D.1 0 2) v) 0 2 (D.1 0 2 + 1)) 6 j = 0 → (upC (upC D.1 5 (D.1 0 2) v) 0 2 (D.1 0 2 + 1)) 0 (j - 4) = _)
        rw [z0 6 j (by omega) (by decide), z0 0 (j - 4) (by omega) (by decide)]
        exact h6 j j1 j2
  · rw [if_neg (by omega), if_neg (by omega), if_neg (by omega)]
    have gl : ns.length = 1 := hw.elim (fun h => by omega) (fun h => by rw [if_neg (by omega)] at h; exact h)
    match ns, gl, hn with
    | [v], _, hn =>
      have n0 : canNx D.1 k [] v = true := hn.1
      have n1 : if k = 9 then 1 ≤ v ∧ v ≤ 5 else v ≤ 9 := by
        unfold canNx at n0
        rw [if_neg (by omega), if_neg (by omega), if_neg (by omega)] at n0
        by_cases h9 : k = 9
        · rw [if_neg (by omega), if_pos h9] at n0
          rw [if_pos h9]
          exact (of_decide_eq_true n0).2
        · rw [if_pos (by omega)] at n0
          rw [if_neg h9]
          exact (of_decide_eq_true n0).2
      show okD (upC (upC D.1 0 (k - 4) v) 6 k 1, D.2)
      have z0 : ∀ a b, a ≠ 6 → ¬ (a = 0 ∧ b = k - 4) → upC (upC D.1 0 (k - 4) v) 6 k 1 a b = D.1 a b := fun a b ha hb => (upC_i ha).trans (if_neg hb)
      refine ⟨okc_up hc h7 hk.2 n1, fun t ht => ?_, fun t ht => ?_, fun j j1 j2 => ?_⟩
      · show okr ((upC (upC D.1 0 (k - 4) v) 6 k 1) 0 0) (D.2 t)
        rw [z0 0 0 (by decide) (by omega)]
        exact hr t ht
      · have ht : upC (upC D.1 0 (k - 4) v) 6 k 1 0 1 ≤ t := ht
        rw [z0 0 1 (by decide) (by omega)] at ht
        exact hz t ht
      · show (upC (upC D.1 0 (k - 4) v) 6 k 1) 6 j ≤ 1 ∧ ((upC (upC D.1 0 (k - 4) v) 6 k 1) 6 j = 0 → (upC (upC D.1 0 (k - 4) v) 6 k 1) 0 (j - 4) = _)
        by_cases ej : j = k
        · rw [ej, upC_e]
          exact ⟨Nat.le_refl _, fun h => absurd h (by decide)⟩
        · rw [upC_j ej, upC_i (by decide), z0 0 (j - 4) (by decide) (by omega)]
          exact h6 j j1 j2
theorem step_ok {k v : Nat} {S S2 : PS} (h : okS S) (hk : k ≤ 9) (hs : stepP k v S = some S2) : okS S2 := by
  obtain ⟨h1, h2⟩ := h
  unfold stepP at hs
  split at hs
  · exact absurd hs (by simp)
  · split at hs
    · split at hs
      · rename_i hh
        rw [← Option.some.inj hs]
        rcases h2 with h2 | ⟨k1, k2, k3⟩
        · exact absurd h2 hh.1
        · exact ⟨tell_ok h1 k1 k2 k3 hh.2, Or.inl rfl⟩
      · exact absurd hs (by simp)
    · split at hs
      · split at hs
        · rename_i hh
          rw [← Option.some.inj hs]
          refine ⟨h1, ?_⟩
          rcases h2 with h2 | ⟨k1, k2, k3⟩
          · exact Or.inl h2
          · exact Or.inr ⟨k1, k2, hh, k3⟩
        · exact absurd hs (by simp)
      · split at hs
        · rename_i hh
          rw [← Option.some.inj hs]
          exact ⟨h1, Or.inr ⟨⟨by omega, hk⟩, hh.2, trivial⟩⟩
        · exact absurd hs (by simp)

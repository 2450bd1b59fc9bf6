/-! words said one behind the other: what they come to, what they cost, how many the best are -/
/-- what a row works -/
def wk (c : Nat → Nat → Nat) : List Nat → Nat
  | [] => 0
  | s :: r => if c 2 s = 1 then 2 ^ c 1 s ||| wk c r else 2 ^ c 1 s
/-- the row behind a word of one of these pupils -/
def af (c : Nat → Nat → Nat) (set : Nat) (r : List Nat) (x : Nat) : Option (List Nat) :=
  if x < 5 then (if x < c 0 0 ∧ r.length < 5 ∧ mayOne c set (2 ^ x) = true then some (x :: r) else none)
  else if x = 5 then (match r with
    | s :: t => if mayOne c set (2 ^ s) = true then some t else none
    | [] => none)
  else if x = 6 then (match r with
    | a :: b :: t => if mayOne c set (2 ^ a ||| 2 ^ b) = true then some (b :: a :: t) else none
    | _ => none)
  else some r
def cst (c : Nat → Nat → Nat) (r : List Nat) (x : Nat) : Nat :=
  if x < 5 then c 3 x else if x = 5 then c 4 (r.headD 0) else if x = 6 then c 0 3 else 0
theorem af_lay {c : Nat → Nat → Nat} {set x : Nat} {r q : List Nat} (hx : x < 5) (h : af c set r x = some q) : (x < c 0 0 ∧ r.length < 5 ∧ mayOne c set (2 ^ x) = true) ∧ q = x :: r := by
  unfold af at h
  rw [if_pos hx] at h
  split at h
  · rename_i hh; exact ⟨hh, (Option.some.inj h).symm⟩
  · exact absurd h (by simp)
theorem af_lift {c : Nat → Nat → Nat} {set : Nat} {r q : List Nat} (h : af c set r 5 = some q) : ∃ s, r = s :: q ∧ mayOne c set (2 ^ s) = true := by
  unfold af at h
  rw [if_neg (by decide), if_pos rfl] at h
  cases r with
  | nil => exact absurd h (by simp)
  | cons s t =>
    dsimp only at h
    split at h
    · rename_i hh; exact ⟨s, by rw [Option.some.inj h], hh⟩
    · exact absurd h (by simp)
theorem af_swap {c : Nat → Nat → Nat} {set : Nat} {r q : List Nat} (h : af c set r 6 = some q) : ∃ a b t, r = a :: b :: t ∧ q = b :: a :: t ∧ mayOne c set (2 ^ a ||| 2 ^ b) = true := by
  unfold af at h
  rw [if_neg (by decide), if_neg (by decide), if_pos rfl] at h
  match r, h with
  | a :: b :: t, h =>
    dsimp only at h
    split at h
    · rename_i hh; exact ⟨a, b, t, rfl, (Option.some.inj h).symm, hh⟩
    · exact absurd h (by simp)
  | [], h => exact absurd h (by simp)
  | [_], h => exact absurd h (by simp)
theorem af_lay' {c : Nat → Nat → Nat} {set x : Nat} {r : List Nat} (hx : x < 5) (h1 : x < c 0 0) (h2 : r.length < 5) (h3 : mayOne c set (2 ^ x) = true) : af c set r x = some (x :: r) := by
  unfold af; rw [if_pos hx, if_pos ⟨h1, h2, h3⟩]
theorem af_lift' {c : Nat → Nat → Nat} {set s : Nat} {r : List Nat} (h : mayOne c set (2 ^ s) = true) : af c set (s :: r) 5 = some r := by
  unfold af; rw [if_neg (by decide), if_pos rfl]; exact if_pos h
theorem af_swap' {c : Nat → Nat → Nat} {set a b : Nat} {r : List Nat} (h : mayOne c set (2 ^ a ||| 2 ^ b) = true) : af c set (a :: b :: r) 6 = some (b :: a :: r) := by
  unfold af; rw [if_neg (by decide), if_neg (by decide), if_pos rfl]; exact if_pos h
/-- all that words come to, one behind the other -/
def go (c : Nat → Nat → Nat) (set : Nat) : List Nat → List Nat → Option (List Nat)
  | [], r => some r
  | x :: xs, r => (af c set r x).bind (go c set xs)
def gc (c : Nat → Nat → Nat) (set : Nat) : List Nat → List Nat → Nat
  | [], _ => 0
  | x :: xs, r => cst c r x + (match af c set r x with
    | some q => gc c set xs q
    | none => 0)
theorem go_cons {c : Nat → Nat → Nat} {set x : Nat} {xs r q t : List Nat} (h : af c set r x = some q) (h2 : go c set xs q = some t) : go c set (x :: xs) r = some t := by
  unfold go; rw [h]; exact h2
theorem go_uncons {c : Nat → Nat → Nat} {set x : Nat} {xs r t : List Nat} (h : go c set (x :: xs) r = some t) : ∃ q, af c set r x = some q ∧ go c set xs q = some t := by
  unfold go at h
  cases ha : af c set r x with
  | none => rw [ha] at h; exact absurd h (by simp)
  | some q => rw [ha] at h; exact ⟨q, rfl, h⟩
theorem gc_cons {c : Nat → Nat → Nat} {set x : Nat} {xs r q : List Nat} (h : af c set r x = some q) : gc c set (x :: xs) r = cst c r x + gc c set xs q := by
  show cst c r x + _ = _
  rw [h]
theorem go_app {c : Nat → Nat → Nat} {set : Nat} : ∀ {xs ys r q t : List Nat}, go c set xs r = some q → go c set ys q = some t → go c set (xs ++ ys) r = some t := by
  intro xs
  induction xs with
  | nil => intro ys r q t h h2; cases h; exact h2
  | cons x xs ih =>
    intro ys r q t h h2
    obtain ⟨p, h3, h4⟩ := go_uncons h
    exact go_cons h3 (ih h4 h2)
theorem gc_app {c : Nat → Nat → Nat} {set : Nat} : ∀ {xs ys r q : List Nat}, go c set xs r = some q → gc c set (xs ++ ys) r = gc c set xs r + gc c set ys q := by
  intro xs
  induction xs with
  | nil => intro ys r q h; cases h; simp [gc]
  | cons x xs ih =>
    intro ys r q h
    obtain ⟨p, h3, h4⟩ := go_uncons h
    rw [List.cons_append, gc_cons h3, gc_cons h3, ih h4]
    omega
/-- a layer more, at some depth, changes nothing but what lifts it -/
def ins (u : List Nat) (f i : Nat) : List Nat := u.take i ++ f :: u.drop i
theorem ins_0 (u : List Nat) (f : Nat) : ins u f 0 = f :: u := rfl
theorem ins_s (a : Nat) (u : List Nat) (f i : Nat) : ins (a :: u) f (i + 1) = a :: ins u f i := rfl
theorem ins_len {u : List Nat} {f i : Nat} : (ins u f i).length = u.length + 1 := by
  unfold ins
  simp
  omega
/-- where the layer is behind a word; none: lifted -/
def trk (i x : Nat) : Option Nat :=
  if x < 5 then some (i + 1)
  else if x = 5 then (if i = 0 then none else some (i - 1))
  else if i = 0 then some 1 else if i = 1 then some 0 else some i
/-- whether these words lift the layer -/
def lifs : List Nat → Nat → Bool
  | [], _ => false
  | x :: xs, i => match trk i x with
    | some j => lifs xs j
    | none => true
theorem ins_step {c : Nat → Nat → Nat} {set x f i : Nat} {u q : List Nat} (hx : x ≤ 6) (hi : i ≤ u.length) (h : af c set (ins u f i) x = some q) :
    (trk i x = none ∧ q = u) ∨ ∃ j u2 ys, trk i x = some j ∧ j ≤ u2.length ∧ q = ins u2 f j ∧ (∀ y ∈ ys, y ≤ 6) ∧ go c set ys u = some u2 ∧ ys.length ≤ 1 ∧ gc c set ys u ≤ cst c (ins u f i) x := by
  rcases Nat.lt_or_ge x 5 with h5 | h5
  · obtain ⟨⟨h1, h2, h3⟩, rfl⟩ := af_lay h5 h
    rw [ins_len] at h2
    have ha : af c set u x = some (x :: u) := af_lay' h5 h1 (by omega) h3
    refine Or.inr ⟨i + 1, x :: u, [x], ?_, by simp; omega, rfl, by simp; omega, go_cons ha rfl, Nat.le_refl _, ?_⟩
    · unfold trk; rw [if_pos h5]
    · rw [gc_cons ha]; unfold cst; rw [if_pos h5, if_pos h5]; exact Nat.le_refl _
  · rcases (by omega : x = 5 ∨ x = 6) with rfl | rfl
    · obtain ⟨s, h1, h2⟩ := af_lift h
      cases i with
      | zero =>
        rw [ins_0] at h1
        exact Or.inl ⟨rfl, (List.cons.inj h1).2.symm⟩
      | succ i =>
        cases u with
        | nil => simp at hi
        | cons a u =>
          rw [ins_s] at h1
          obtain ⟨rfl, rfl⟩ := List.cons.inj h1
          refine Or.inr ⟨i, u, [5], rfl, by simp at hi; omega, rfl, by simp, go_cons (af_lift' h2) rfl, Nat.le_refl _, ?_⟩
          rw [gc_cons (af_lift' h2)]
          exact Nat.le_refl _
    · obtain ⟨a, b, t, h1, rfl, h2⟩ := af_swap h
      match i, u, hi, h1 with
      | 0, u, hi, h1 =>
        rw [ins_0] at h1
        obtain ⟨rfl, rfl⟩ := List.cons.inj h1
        exact Or.inr ⟨1, b :: t, [], rfl, by simp, rfl, by simp, rfl, Nat.zero_le _, Nat.zero_le _⟩
      | 1, [], hi, h1 => simp at hi
      | 1, e :: u, hi, h1 =>
        rw [ins_s, ins_0] at h1
        obtain ⟨e1, e2⟩ := List.cons.inj h1
        obtain ⟨e3, e4⟩ := List.cons.inj e2
        subst e1 e3 e4
        exact Or.inr ⟨0, e :: u, [], rfl, by simp, rfl, by simp, rfl, Nat.zero_le _, Nat.zero_le _⟩
      | i + 2, [], hi, h1 => simp at hi
      | i + 2, [e], hi, h1 => simp at hi
      | i + 2, e :: g :: u, hi, h1 =>
        rw [ins_s, ins_s] at h1
        obtain ⟨e1, e2⟩ := List.cons.inj h1
        obtain ⟨e3, e4⟩ := List.cons.inj e2
        subst e1 e3 e4
        refine Or.inr ⟨i + 2, g :: e :: u, [6], ?_, by simp at hi ⊢; omega, rfl, by simp, go_cons (af_swap' h2) rfl, Nat.le_refl _, ?_⟩
        · rfl
        · rw [gc_cons (af_swap' h2)]
          exact Nat.le_refl _
/-- words that lift a layer: without it one word less does it -/
theorem ins_lift {c : Nat → Nat → Nat} {set f : Nat} : ∀ {xs : List Nat} {i : Nat} {u q : List Nat}, (∀ x ∈ xs, x ≤ 6) → i ≤ u.length → lifs xs i = true → go c set xs (ins u f i) = some q →
    ∃ ys, (∀ y ∈ ys, y ≤ 6) ∧ go c set ys u = some q ∧ ys.length < xs.length ∧ gc c set ys u ≤ gc c set xs (ins u f i) := by
  intro xs
  induction xs with
  | nil => intro i u q _ _ h; exact absurd h (by simp [lifs])
  | cons x xs ih =>
    intro i u q hx hi h hg
    obtain ⟨p, h1, h2⟩ := go_uncons hg
    have hx6 := hx x List.mem_cons_self
    have hxs : ∀ y ∈ xs, y ≤ 6 := fun y hy => hx y (List.mem_cons_of_mem _ hy)
    rcases ins_step hx6 hi h1 with ⟨_, rfl⟩ | ⟨j, u2, ys, h3, h4, rfl, h5, h6, h7, h8⟩
    · exact ⟨xs, hxs, h2, by simp, by rw [gc_cons h1]; omega⟩
    · unfold lifs at h
      rw [h3] at h
      obtain ⟨zs, g1, g2, g3, g4⟩ := ih hxs h4 h h2
      refine ⟨ys ++ zs, ?_, go_app h6 g2, ?_, ?_⟩
      · intro y hy
        rcases List.mem_append.mp hy with hy | hy
        · exact h5 y hy
        · exact g1 y hy
      · simp; omega
      · rw [gc_app h6, gc_cons h1]; omega
/-- no fewer words come to the same at no more cost -/
def best (c : Nat → Nat → Nat) (set : Nat) (xs r q : List Nat) : Prop :=
  (∀ x ∈ xs, x ≤ 6) ∧ go c set xs r = some q ∧ ∀ ys, (∀ y ∈ ys, y ≤ 6) → go c set ys r = some q → gc c set ys r ≤ gc c set xs r → xs.length ≤ ys.length
theorem best.tl {c : Nat → Nat → Nat} {set x : Nat} {xs r p q : List Nat} (h : best c set (x :: xs) r q) (ha : af c set r x = some p) : best c set xs p q := by
  obtain ⟨h1, h2, h3⟩ := h
  obtain ⟨p2, g1, g2⟩ := go_uncons h2
  have e : p = p2 := Option.some.inj (ha.symm.trans g1)
  subst e
  refine ⟨fun y hy => h1 y (List.mem_cons_of_mem _ hy), g2, fun ys k1 k2 k3 => ?_⟩
  have := h3 (x :: ys) (by
    intro y hy
    rcases List.mem_cons.mp hy with rfl | hy
    · exact h1 y List.mem_cons_self
    · exact k1 y hy) (go_cons ha k2) (by rw [gc_cons ha, gc_cons ha]; omega)
  simp at this
  omega
/-- how many words of a sort -/
def nlay (xs : List Nat) : Nat := (xs.filter (fun x => decide (x < 5))).length
def nlif (xs : List Nat) : Nat := (xs.filter (fun x => decide (x = 5))).length
/-- marks of layers: true: one that is not lifted -/
def swl : List Bool → List Bool
  | a :: b :: t => b :: a :: t
  | t => t
theorem nlif_le {c : Nat → Nat → Nat} {set : Nat} : ∀ {xs r q : List Nat} (g : List Bool), best c set xs r q → g.length = r.length → (∀ i, g[i]? = some true → lifs xs i = false) → nlif xs ≤ g.count false := by
  intro xs
  induction xs with
  | nil => intro r q g _ _ _; exact Nat.zero_le _
  | cons x xs ih =>
    intro r q g hb hg hm
    obtain ⟨p, h1, h2⟩ := go_uncons hb.2.1
    have hx6 := hb.1 x List.mem_cons_self
    have ht := hb.tl h1
    rcases Nat.lt_or_ge x 5 with h5 | h5
    · obtain ⟨_, rfl⟩ := af_lay h5 h1
      have e : nlif (x :: xs) = nlif xs := by
        unfold nlif
        rw [List.filter_cons_of_neg (by simp; omega)]
      have := ih (true :: g) ht (by simp [hg]) (by
        intro i hi
        cases i with
        | zero =>
          cases hl : lifs xs 0 with
          | false => rfl
          | true =>
            exfalso
            obtain ⟨ys, k1, k2, k3, k4⟩ := ins_lift (f := x) (u := r) ht.1 (Nat.zero_le _) hl h2
            have := hb.2.2 ys k1 k2 (by rw [gc_cons h1]; rw [ins_0] at k4; omega)
            simp at this
            omega
        | succ i =>
          have h3 := hm i (by simpa using hi)
          unfold lifs trk at h3
          rw [if_pos h5] at h3
          exact h3)
      rw [e]
      simpa using this
    · rcases (by omega : x = 5 ∨ x = 6) with rfl | rfl
      · obtain ⟨s, rfl, _⟩ := af_lift h1
        cases g with
        | nil => simp at hg
        | cons b g =>
          have hb0 : b = false := by
            cases b with
            | false => rfl
            | true =>
              have := hm 0 rfl
              simp [lifs, trk] at this
          subst hb0
          have := ih g ht (by simpa using hg) (by
            intro i hi
            have h3 := hm (i + 1) (by simpa using hi)
            unfold lifs trk at h3
            simpa using h3)
          have e : nlif (5 :: xs) = nlif xs + 1 := by
            unfold nlif
            rw [List.filter_cons_of_pos (by simp)]
            rfl
          rw [e]
          simp
          omega
      · obtain ⟨a, b, t, rfl, rfl, _⟩ := af_swap h1
        match g, hg with
        | m1 :: m2 :: g, hg =>
          have := ih (m2 :: m1 :: g) ht (by simpa using hg) (by
            intro i hi
            match i, hi with
            | 0, hi =>
              have h3 := hm 1 (by simpa using hi)
              simpa [lifs, trk] using h3
            | 1, hi =>
              have h3 := hm 0 (by simpa using hi)
              simpa [lifs, trk] using h3
            | i + 2, hi =>
              have h3 := hm (i + 2) (by simpa using hi)
              simpa [lifs, trk] using h3)
          have e : nlif (6 :: xs) = nlif xs := by
            unfold nlif
            rw [List.filter_cons_of_neg (by simp)]
          rw [e]
          refine Nat.le_trans this (Nat.le_of_eq ?_)
          simp only [List.count_cons]
          omega
theorem go_len {c : Nat → Nat → Nat} {set : Nat} : ∀ {xs r q : List Nat}, (∀ x ∈ xs, x ≤ 6) → go c set xs r = some q → q.length + nlif xs = r.length + nlay xs := by
  intro xs
  induction xs with
  | nil => intro r q _ h; cases h; rfl
  | cons x xs ih =>
    intro r q hx h
    obtain ⟨p, h1, h2⟩ := go_uncons h
    have hx6 := hx x List.mem_cons_self
    have := ih (fun y hy => hx y (List.mem_cons_of_mem _ hy)) h2
    rcases Nat.lt_or_ge x 5 with h5 | h5
    · obtain ⟨_, rfl⟩ := af_lay h5 h1
      unfold nlif nlay at *
      rw [List.filter_cons_of_neg (by simp; omega), List.filter_cons_of_pos (by simp; omega)]
      simp at this ⊢
      omega
    · rcases (by omega : x = 5 ∨ x = 6) with rfl | rfl
      · obtain ⟨s, rfl, _⟩ := af_lift h1
        unfold nlif nlay at *
        rw [List.filter_cons_of_pos (by simp), List.filter_cons_of_neg (by simp)]
        simp at this ⊢
        omega
      · obtain ⟨a, b, t, rfl, rfl, _⟩ := af_swap h1
        unfold nlif nlay at *
        rw [List.filter_cons_of_neg (by simp), List.filter_cons_of_neg (by simp)]
        simp at this ⊢
        omega
/-- no two swaps stand side by side in what is best -/
theorem best_swaps {c : Nat → Nat → Nat} {set : Nat} : ∀ {xs r q : List Nat}, best c set xs r q → xs.length ≤ 2 * (nlay xs + nlif xs) + 1 ∧ (xs.head? ≠ some 6 → xs.length ≤ 2 * (nlay xs + nlif xs)) := by
  intro xs
  induction xs with
  | nil => intro r q _; simp
  | cons x xs ih =>
    intro r q hb
    obtain ⟨p, h1, h2⟩ := go_uncons hb.2.1
    have hx6 := hb.1 x List.mem_cons_self
    have ht := hb.tl h1
    have hi := ih ht
    rcases Nat.lt_or_ge x 5 with h5 | h5
    · unfold nlif nlay at *
      rw [List.filter_cons_of_pos (by simp; omega), List.filter_cons_of_neg (by simp; omega)]
      simp at hi ⊢
      omega
    · rcases (by omega : x = 5 ∨ x = 6) with rfl | rfl
      · unfold nlif nlay at *
        rw [List.filter_cons_of_neg (by simp), List.filter_cons_of_pos (by simp)]
        simp at hi ⊢
        omega
      · obtain ⟨a, b, t, rfl, rfl, _⟩ := af_swap h1
        have hn : xs.head? ≠ some 6 := by
          intro hh
          cases xs with
          | nil => simp at hh
          | cons y ys =>
            simp at hh
            subst hh
            obtain ⟨p2, k1, k2⟩ := go_uncons h2
            obtain ⟨a2, b2, t2, e1, rfl, _⟩ := af_swap k1
            obtain ⟨e2, e3⟩ := List.cons.inj e1
            obtain ⟨e4, e5⟩ := List.cons.inj e3
            subst e2 e4 e5
            have := hb.2.2 ys (fun y hy => hb.1 y (List.mem_cons_of_mem _ (List.mem_cons_of_mem _ hy))) k2 (by rw [gc_cons h1, gc_cons k1]; omega)
            simp at this
            omega
        have := hi.2 hn
        unfold nlif nlay at *
        rw [List.filter_cons_of_neg (by simp), List.filter_cons_of_neg (by simp)]
        simp at this ⊢
        omega
theorem af_len {c : Nat → Nat → Nat} {set x : Nat} {r q : List Nat} (hx : x ≤ 6) (h : af c set r x = some q) (hr : r.length ≤ 5) : q.length ≤ 5 := by
  rcases Nat.lt_or_ge x 5 with h5 | h5
  · obtain ⟨h1, rfl⟩ := af_lay h5 h
    simp; omega
  · rcases (by omega : x = 5 ∨ x = 6) with rfl | rfl
    · obtain ⟨s, rfl, _⟩ := af_lift h
      simp at hr; omega
    · obtain ⟨a, b, t, rfl, rfl, _⟩ := af_swap h
      simpa using hr
theorem go_len5 {c : Nat → Nat → Nat} {set : Nat} : ∀ {xs r q : List Nat}, (∀ x ∈ xs, x ≤ 6) → go c set xs r = some q → r.length ≤ 5 → q.length ≤ 5 := by
  intro xs
  induction xs with
  | nil => intro r q _ h hr; cases h; exact hr
  | cons x xs ih =>
    intro r q hx h hr
    obtain ⟨p, h1, h2⟩ := go_uncons h
    exact ih (fun y hy => hx y (List.mem_cons_of_mem _ hy)) h2 (af_len (hx x List.mem_cons_self) h1 hr)
theorem best_len {c : Nat → Nat → Nat} {set : Nat} {xs r q : List Nat} (h : best c set xs r q) (hr : r.length ≤ 5) : xs.length ≤ 31 := by
  have h1 := nlif_le (List.replicate r.length false) h (by simp) (by
    intro i hi
    rw [List.getElem?_replicate] at hi
    split at hi <;> simp at hi)
  have h2 := go_len h.1 h.2.1
  have h3 := go_len5 h.1 h.2.1 hr
  have h4 := (best_swaps h).1
  have h5 : (List.replicate r.length false).count false = r.length := by simp
  omega

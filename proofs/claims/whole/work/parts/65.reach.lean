/-! what can be reached: the class's short cut -/
theorem and1 : ∀ m : Nat, m < 32 → ∀ a : Nat, a < 5 → (m &&& 2 ^ a == 2 ^ a) = m.testBit a := by decide +kernel
theorem or_sub : ∀ V : Nat, V < 32 → ∀ say : Nat, say < 32 → ∀ s : Nat, s < 5 → V ||| say = say → say.testBit s = true → (V ||| 2 ^ s) ||| say = say := by decide +kernel
theorem or_pop : ∀ V : Nat, V < 32 → ∀ s : Nat, s < 5 → pop (V ||| 2 ^ s) ≤ pop V + 1 := by decide +kernel
theorem pow_sub : ∀ say : Nat, say < 32 → ∀ s : Nat, s < 5 → say.testBit s = true → 2 ^ s ||| say = say := by decide +kernel
theorem pow_pop : ∀ s : Nat, s < 5 → pop (2 ^ s) = 1 := by decide +kernel
theorem sub_bit : ∀ V : Nat, V < 32 → ∀ say : Nat, say < 32 → ∀ s : Nat, s < 5 → V ||| say = say → V.testBit s = true → say.testBit s = true := by decide +kernel
section REACH
variable {c : Nat → Nat → Nat} {set : Nat}
theorem sosN_bit (hc : okc c) {s : Nat} (hs : s < 5) : ∀ n, n ≤ c 0 2 → (sosN c set n).testBit s = mayN c set (2 ^ s) n := by
  intro n
  induction n with
  | zero => intro _; exact Nat.zero_testBit s
  | succ n ih =>
    intro hn
    have h1 := ih (by omega)
    have h2 := c5_lt hc (q := n) (by omega)
    have e1 : mayN c set (2 ^ s) (n + 1) = (mayN c set (2 ^ s) n || (set.testBit n && (c 5 n).testBit s)) := by
      show (_ || (set.testBit n && (c 5 n &&& 2 ^ s == 2 ^ s))) = _
      rw [and1 (c 5 n) (by omega) s hs]
    have e2 : sosN c set (n + 1) = if set.testBit n = true then sosN c set n ||| c 5 n else sosN c set n := rfl
    rw [e1, e2]
    cases hb : set.testBit n with
    | true => rw [if_pos rfl, Nat.testBit_or, h1, Bool.true_and]
    | false => rw [if_neg (by decide), h1, Bool.false_and, Bool.or_false]
theorem sos_bit (hc : okc c) {s : Nat} (hs : s < 5) : (sos c set).testBit s = mayOne c set (2 ^ s) := sosN_bit hc hs (c 0 2) (Nat.le_refl _)
theorem sos_lt (hc : okc c) : sos c set < 32 := sosN_lt hc (Nat.le_refl _)
theorem may_two (hc : okc c) {a b : Nat} (ha : a < 5) (hb : b < 5) (h : mayOne c set (2 ^ a ||| 2 ^ b) = true) : mayOne c set (2 ^ a) = true ∧ mayOne c set (2 ^ b) = true := by
  obtain ⟨q, h1, h2⟩ := mayN_iff.mp h
  have h5 := c5_lt hc h1
  unfold may1 at h2
  rw [and2 (c 5 q) (by omega) a ha b hb, Bool.and_eq_true, Bool.and_eq_true] at h2
  refine ⟨mayN_iff.mpr ⟨q, h1, ?_⟩, mayN_iff.mpr ⟨q, h1, ?_⟩⟩
  · unfold may1
    rw [and1 (c 5 q) (by omega) a ha, h2.1, h2.2.1]
    rfl
  · unfold may1
    rw [and1 (c 5 q) (by omega) b hb, h2.1, h2.2.2]
    rfl
theorem bas_split (say : Nat) : ∀ r : List Nat, ∃ t, r = t ++ bas say r ∧ ∀ s ∈ t, say.testBit s = true := by
  intro r
  induction r with
  | nil => exact ⟨[], rfl, fun s h => absurd h List.not_mem_nil⟩
  | cons s r ih =>
    unfold bas
    by_cases h : say.testBit s = true
    · rw [if_pos h]
      obtain ⟨t, h1, h2⟩ := ih
      refine ⟨s :: t, by rw [List.cons_append, ← h1], fun z hz => ?_⟩
      rcases List.mem_cons.mp hz with rfl | hz
      · exact h
      · exact h2 z hz
    · rw [if_neg h]
      exact ⟨[], rfl, fun s h => absurd h List.not_mem_nil⟩
theorem bas_head (say : Nat) : ∀ r : List Nat, ∀ s t, bas say r = s :: t → say.testBit s = false := by
  intro r
  induction r with
  | nil => intro s t h; exact absurd h (by simp [bas])
  | cons a r ih =>
    intro s t h
    unfold bas at h
    by_cases hb : say.testBit a = true
    · rw [if_pos hb] at h
      exact ih s t h
    · rw [if_neg hb] at h
      rw [← (List.cons.inj h).1]
      simpa using hb
/-- what stays below stays -/
theorem keepB (hc : okc c) {B : List Nat} (hB : ∀ s t, B = s :: t → (sos c set).testBit s = false) : ∀ (xs t q : List Nat), okr (c 0 0) (t ++ B) → (∀ s ∈ t, (sos c set).testBit s = true) → (∀ x ∈ xs, x ≤ 6) → go c set xs (t ++ B) = some q →
    ∃ t2, q = t2 ++ B ∧ ∀ s ∈ t2, (sos c set).testBit s = true := by
  have h5 := hc.1
  intro xs
  induction xs with
  | nil => intro t q _ ht _ hg; cases hg; exact ⟨t, rfl, ht⟩
  | cons x xs ih =>
    intro t q hr ht hx hg
    obtain ⟨p, h1, h2⟩ := go_uncons hg
    have hx6 := hx x List.mem_cons_self
    have hxs : ∀ y ∈ xs, y ≤ 6 := fun y hy => hx y (List.mem_cons_of_mem _ hy)
    have hp := af_ok hr hx6 h1
    rcases Nat.lt_or_ge x 5 with hx5 | hx5
    · obtain ⟨⟨k1, k2, k3⟩, rfl⟩ := af_lay hx5 h1
      refine ih (x :: t) q hp (fun z hz => ?_) hxs h2
      rcases List.mem_cons.mp hz with rfl | hz
      · rw [sos_bit hc hx5]; exact k3
      · exact ht z hz
    · rcases (by omega : x = 5 ∨ x = 6) with rfl | rfl
      · obtain ⟨s, he, hm⟩ := af_lift h1
        cases t with
        | nil =>
          have := hB s p he
          have hs : s < c 0 0 := hr.2 s (by rw [he]; exact List.mem_cons_self)
          rw [sos_bit hc (by omega), hm] at this
          exact absurd this (by decide)
        | cons a t =>
          rw [List.cons_append] at he
          obtain ⟨e1, e2⟩ := List.cons.inj he
          subst e2
          exact ih t q hp (fun z hz => ht z (List.mem_cons_of_mem _ hz)) hxs h2
      · obtain ⟨a, b, u, he, rfl, hm⟩ := af_swap h1
        have ha : a < c 0 0 := hr.2 a (by rw [he]; exact List.mem_cons_self)
        have hb : b < c 0 0 := hr.2 b (by rw [he]; exact List.mem_cons_of_mem _ List.mem_cons_self)
        obtain ⟨m1, m2⟩ := may_two hc (by omega) (by omega) hm
        rw [← sos_bit hc (by omega)] at m1 m2
        match t, ht, he with
        | [], ht, he =>
          have := hB a (b :: u) he
          rw [m1] at this
          exact absurd this (by decide)
        | [t1], ht, he =>
          rw [List.cons_append, List.nil_append] at he
          obtain ⟨e1, e2⟩ := List.cons.inj he
          have := hB b u e2
          rw [m2] at this
          exact absurd this (by decide)
        | t1 :: t2 :: t, ht, he =>
          rw [List.cons_append, List.cons_append] at he
          obtain ⟨e1, e2⟩ := List.cons.inj he
          obtain ⟨e3, e4⟩ := List.cons.inj e2
          subst e1 e3 e4
          exact ih (t2 :: t1 :: t) q hp (fun z hz => by
            rcases List.mem_cons.mp hz with rfl | hz
            · exact m2
            · rcases List.mem_cons.mp hz with rfl | hz
              · exact m1
              · exact ht z (List.mem_cons_of_mem _ (List.mem_cons_of_mem _ hz))) hxs h2
theorem wbW_or {V s : Nat} : ∀ n, wbW c (V ||| 2 ^ s) n = wbW c V n ||| (if s < n then 2 ^ c 1 s else 0) := by
  intro n
  induction n with
  | zero =>
    rw [if_neg (Nat.not_lt_zero s), Nat.or_zero]
    rfl
  | succ n ih =>
    have e1 : wbW c (V ||| 2 ^ s) (n + 1) = if (V ||| 2 ^ s).testBit n = true then wbW c (V ||| 2 ^ s) n ||| 2 ^ c 1 n else wbW c (V ||| 2 ^ s) n := rfl
    have e2 : wbW c V (n + 1) = if V.testBit n = true then wbW c V n ||| 2 ^ c 1 n else wbW c V n := rfl
    rw [ih, Nat.testBit_or] at e1
    by_cases hs : n = s
    · subst hs
      rw [Nat.testBit_two_pow_self, Bool.or_true, if_pos rfl, if_neg (Nat.lt_irrefl n), Nat.or_zero] at e1
      rw [e1, e2, if_pos (Nat.lt_succ_self n)]
      cases hv : V.testBit n with
      | true => rw [if_pos rfl, Nat.or_assoc, Nat.or_self]
      | false => rw [if_neg (by decide)]
    · rw [Nat.testBit_two_pow_of_ne (fun h => hs h.symm), Bool.or_false] at e1
      rw [e1, e2]
      by_cases hlt : s < n
      · have k1 : s < n + 1 := by omega
        rw [if_pos hlt, if_pos k1]
        cases hv : V.testBit n with
        | true => rw [if_pos rfl, if_pos rfl, Nat.or_assoc, Nat.or_assoc, Nat.or_comm (2 ^ c 1 s)]
        | false => rw [if_neg (by decide), if_neg (by decide)]
      · have k1 : ¬ s < n + 1 := by omega
        rw [if_neg hlt, if_neg k1]
        cases hv : V.testBit n with
        | true => rw [if_pos rfl, if_pos rfl, Nat.or_zero, Nat.or_zero]
        | false => rw [if_neg (by decide), if_neg (by decide)]
theorem wbK_or {V s : Nat} (hg : c 2 s = 1) : ∀ n, wbK c (V ||| 2 ^ s) n = wbK c V n := by
  intro n
  induction n with
  | zero => rfl
  | succ n ih =>
    have e1 : wbK c (V ||| 2 ^ s) (n + 1) = if (V ||| 2 ^ s).testBit n = true then wbK c (V ||| 2 ^ s) n + (1 - c 2 n) else wbK c (V ||| 2 ^ s) n := rfl
    have e2 : wbK c V (n + 1) = if V.testBit n = true then wbK c V n + (1 - c 2 n) else wbK c V n := rfl
    rw [e1, e2, ih, Nat.testBit_or]
    by_cases hs : n = s
    · subst hs
      rw [Nat.testBit_two_pow_self, Bool.or_true, if_pos rfl, hg]
      by_cases hv : V.testBit n = true
      · rw [if_pos hv]
      · rw [if_neg hv]
        omega
    · rw [Nat.testBit_two_pow_of_ne (fun h => hs h.symm), Bool.or_false]
theorem wb_zero : ∀ n, wbW c 0 n = 0 ∧ wbK c 0 n = 0 := by
  intro n
  induction n with
  | zero => exact ⟨rfl, rfl⟩
  | succ n ih =>
    have e1 : wbW c 0 (n + 1) = if (0 : Nat).testBit n = true then wbW c 0 n ||| 2 ^ c 1 n else wbW c 0 n := rfl
    have e2 : wbK c 0 (n + 1) = if (0 : Nat).testBit n = true then wbK c 0 n + (1 - c 2 n) else wbK c 0 n := rfl
    rw [e1, e2, Nat.zero_testBit, if_neg (by decide), if_neg (by decide)]
    exact ih
theorem wbK_one {s : Nat} (hg : c 2 s = 0) : ∀ n, wbK c (2 ^ s) n = if s < n then 1 else 0 := by
  intro n
  induction n with
  | zero => rfl
  | succ n ih =>
    have e2 : wbK c (2 ^ s) (n + 1) = if (2 ^ s).testBit n = true then wbK c (2 ^ s) n + (1 - c 2 n) else wbK c (2 ^ s) n := rfl
    rw [e2, ih]
    by_cases hs : n = s
    · subst hs
      rw [Nat.testBit_two_pow_self, if_pos rfl, if_neg (Nat.lt_irrefl n), if_pos (Nat.lt_succ_self n), hg]
    · rw [Nat.testBit_two_pow_of_ne (fun h => hs h.symm), if_neg (by decide)]
      by_cases hlt : s < n
      · rw [if_pos hlt, if_pos (by omega)]
      · rw [if_neg hlt, if_neg (by omega)]
/-- a row's visible spells, as a set -/
theorem vis_set (hc : okc c) {say : Nat} (hsy : say < 32) {B : List Nat} : ∀ t : List Nat, (∀ s ∈ t, s < c 0 0) → (∀ s ∈ t, say.testBit s = true) →
    ∃ V, V < 2 ^ c 0 0 ∧ V ||| say = say ∧ pop V ≤ t.length ∧ ((wbK c V (c 0 0) = 1 ∧ wbW c V (c 0 0) = wk c (t ++ B)) ∨ (wbK c V (c 0 0) = 0 ∧ wbW c V (c 0 0) ||| wk c B = wk c (t ++ B))) := by
  have h5 := hc.1
  have h32 := two32 hc
  intro t
  induction t with
  | nil =>
    intro _ _
    refine ⟨0, Nat.two_pow_pos _, Nat.zero_or _, by decide, Or.inr ⟨(wb_zero _).2, ?_⟩⟩
    rw [(wb_zero (c := c) _).1, Nat.zero_or]
    rfl
  | cons s t ih =>
    intro h1 h2
    have hs := h1 s List.mem_cons_self
    have hsb := h2 s List.mem_cons_self
    have hp : 2 ^ s < 2 ^ c 0 0 := Nat.pow_lt_pow_right (by decide) hs
    have hg1 := (hc.2.2.2.2.2.2.1 s hs).2.1
    rw [List.cons_append, wk_cons]
    rcases (by omega : c 2 s = 0 ∨ c 2 s = 1) with hg | hg
    · refine ⟨2 ^ s, hp, pow_sub say hsy s (by omega) hsb, by rw [pow_pop s (by omega)]; simp, Or.inl ⟨by rw [wbK_one hg, if_pos hs], ?_⟩⟩
      have := wbW_or (c := c) (V := 0) (s := s) (c 0 0)
      rw [Nat.zero_or, (wb_zero _).1, Nat.zero_or, if_pos hs] at this
      rw [this, if_neg (by omega)]
    · obtain ⟨V, v1, v2, v3, v4⟩ := ih (fun z hz => h1 z (List.mem_cons_of_mem _ hz)) (fun z hz => h2 z (List.mem_cons_of_mem _ hz))
      refine ⟨V ||| 2 ^ s, Nat.or_lt_two_pow v1 hp, or_sub V (by omega) say hsy s (by omega) v2 hsb, ?_, ?_⟩
      · have := or_pop V (by omega) s (by omega)
        simp only [List.length_cons]
        omega
      · rw [wbK_or hg, wbW_or, if_pos hs, if_pos hg]
        rcases v4 with ⟨a, b⟩ | ⟨a, b⟩
        · exact Or.inl ⟨a, by rw [b, Nat.or_comm]⟩
        · refine Or.inr ⟨a, ?_⟩
          rw [← b, Nat.or_assoc, Nat.or_comm (2 ^ c 1 s) (wk c B), ← Nat.or_assoc, Nat.or_comm _ (2 ^ c 1 s)]
theorem hasW_of (hc : okc c) {e : Nat} {xs r : List Nat} (hr : okr (c 0 0) r) (h : leads c set e xs r) : hasW c r e (sos c set) = true := by
  obtain ⟨t, t1, t2⟩ := bas_split (sos c set) r
  obtain ⟨q, q1, q2⟩ := h.2
  have hq := go_ok hr h.1 q1
  have hr2 := hr
  rw [t1] at q1 hr2
  obtain ⟨u, u1, u2⟩ := keepB hc (bas_head (sos c set) r) xs t q hr2 t2 h.1 q1
  rw [u1] at hq q2
  obtain ⟨V, v1, v2, v3, v4⟩ := vis_set hc (sos_lt hc (set := set)) (B := bas (sos c set) r) u (fun s hs => hq.2 s (List.mem_append_left _ hs)) u2
  have hl := hq.1
  rw [List.length_append] at hl
  refine exN_iff.mpr ⟨V, v1, ?_⟩
  unfold fitW
  have e1 : wob c V (bas (sos c set) r) = some e := by
    unfold wob
    rcases v4 with ⟨a, b⟩ | ⟨a, b⟩
    · rw [if_neg (by omega), if_pos a, b, q2]
    · rw [if_neg (by omega), if_neg (by omega), b, q2]
  rw [decide_eq_true v2, decide_eq_true (by omega : pop V ≤ 5 - (bas (sos c set) r).length), decide_eq_true e1]
  rfl
/-! and back: what a set can make can be reached -/
theorem go_lifts (hc : okc c) {B : List Nat} : ∀ t : List Nat, (∀ s ∈ t, s < c 0 0) → (∀ s ∈ t, (sos c set).testBit s = true) → go c set (List.replicate t.length 5) (t ++ B) = some B := by
  have h5 := hc.1
  intro t
  induction t with
  | nil => intro _ _; rfl
  | cons s t ih =>
    intro h1 h2
    have hs := h1 s List.mem_cons_self
    have hm := h2 s List.mem_cons_self
    rw [sos_bit hc (by omega)] at hm
    exact go_cons (af_lift' hm) (ih (fun z hz => h1 z (List.mem_cons_of_mem _ hz)) (fun z hz => h2 z (List.mem_cons_of_mem _ hz)))
theorem go_lays (hc : okc c) : ∀ (l B : List Nat), (∀ s ∈ l, s < c 0 0) → (∀ s ∈ l, (sos c set).testBit s = true) → l.length + B.length ≤ 5 → go c set l B = some (l.reverse ++ B) := by
  have h5 := hc.1
  intro l
  induction l with
  | nil => intro B _ _ _; rfl
  | cons s l ih =>
    intro B h1 h2 hl
    have hs := h1 s List.mem_cons_self
    have hm := h2 s List.mem_cons_self
    rw [sos_bit hc (by omega)] at hm
    simp only [List.length_cons] at hl
    have := ih (s :: B) (fun z hz => h1 z (List.mem_cons_of_mem _ hz)) (fun z hz => h2 z (List.mem_cons_of_mem _ hz)) (by simp only [List.length_cons]; omega)
    rw [List.reverse_cons, List.append_assoc]
    exact go_cons (af_lay' (by omega) hs (by omega) hm) this
/-- the spells of a set, from below: those that are glass, those that aren't -/
def gls (c : Nat → Nat → Nat) (V : Nat) (g : Nat) : Nat → List Nat
  | 0 => []
  | n + 1 => if V.testBit n = true ∧ c 2 n = g then n :: gls c V g n else gls c V g n
theorem gls_mem {V g : Nat} : ∀ {n s : Nat}, s ∈ gls c V g n → s < n ∧ V.testBit s = true ∧ c 2 s = g := by
  intro n
  induction n with
  | zero => intro s h; exact absurd h List.not_mem_nil
  | succ n ih =>
    intro s h
    unfold gls at h
    split at h
    · rename_i hh
      rcases List.mem_cons.mp h with rfl | h
      · exact ⟨by omega, hh⟩
      · have := ih h; exact ⟨by omega, this.2⟩
    · have := ih h; exact ⟨by omega, this.2⟩
theorem gls_cnt (hc : okc c) {V : Nat} : ∀ n, n ≤ c 0 0 → (gls c V 0 n).length = wbK c V n ∧ (gls c V 0 n).length + (gls c V 1 n).length = popN V n := by
  intro n
  induction n with
  | zero => intro _; exact ⟨rfl, rfl⟩
  | succ n ih =>
    intro hn
    obtain ⟨h1, h2⟩ := ih (by omega)
    have hg := (hc.2.2.2.2.2.2.1 n (by omega)).2.1
    have e3 : popN V (n + 1) = popN V n + V / 2 ^ n % 2 := rfl
    have e4 : V.testBit n = decide (V / 2 ^ n % 2 = 1) := Nat.testBit_eq_decide_div_mod_eq
    by_cases hv : V.testBit n = true
    · rw [hv] at e4
      have k : V / 2 ^ n % 2 = 1 := of_decide_eq_true e4.symm
      have b2 : wbK c V (n + 1) = wbK c V n + (1 - c 2 n) := if_pos hv
      rcases (by omega : c 2 n = 0 ∨ c 2 n = 1) with g0 | g0
      · have b0 : gls c V 0 (n + 1) = n :: gls c V 0 n := if_pos ⟨hv, g0⟩
        have b1 : gls c V 1 (n + 1) = gls c V 1 n := if_neg (fun h => by have := h.2; omega)
        rw [b0, b1, b2, e3]
        simp only [List.length_cons]
        omega
      · have b0 : gls c V 0 (n + 1) = gls c V 0 n := if_neg (fun h => by have := h.2; omega)
        have b1 : gls c V 1 (n + 1) = n :: gls c V 1 n := if_pos ⟨hv, g0⟩
        rw [b0, b1, b2, e3]
        simp only [List.length_cons]
        omega
    · have hv2 : V.testBit n = false := by simpa using hv
      rw [hv2] at e4
      have k : ¬ V / 2 ^ n % 2 = 1 := of_decide_eq_false e4.symm
      have b0 : ∀ g, gls c V g (n + 1) = gls c V g n := fun g => if_neg (fun h => hv h.1)
      have b2 : wbK c V (n + 1) = wbK c V n := if_neg hv
      rw [b0, b0, b2, e3]
      omega
theorem popN_le (V : Nat) : ∀ (k n : Nat), popN V n ≤ popN V (n + k) := by
  intro k
  induction k with
  | zero => intro n; exact Nat.le_refl _
  | succ k ih =>
    intro n
    have e : popN V (n + (k + 1)) = popN V (n + k) + V / 2 ^ (n + k) % 2 := rfl
    have := ih n
    omega
end REACH

/-! what a set can make can be reached -/
section REACH2
variable {c : Nat → Nat → Nat} {set : Nat}
theorem gls_wk (hc : okc c) {V : Nat} {B : List Nat} : ∀ n, n ≤ c 0 0 → ∀ X, wk c (gls c V 1 n ++ X) = (wk c (gls c V 1 n) ||| wk c X) := by
  intro n
  induction n with
  | zero => intro _ X; exact (Nat.zero_or _).symm
  | succ n ih =>
    intro hn X
    have e5 : gls c V 1 (n + 1) = if V.testBit n = true ∧ c 2 n = 1 then n :: gls c V 1 n else gls c V 1 n := rfl
    rw [e5]
    by_cases h : V.testBit n = true ∧ c 2 n = 1
    · rw [if_pos h, List.cons_append, wk_cons, wk_cons, if_pos h.2, if_pos h.2, ih (by omega) X, Nat.or_assoc]
    · rw [if_neg h]
      exact ih (by omega) X
theorem gls_orr (hc : okc c) {V : Nat} : ∀ n, n ≤ c 0 0 → (wbK c V n = 0 → wbW c V n = wk c (gls c V 1 n) ∧ gls c V 0 n = []) ∧ (wbK c V n = 1 → ∃ s, gls c V 0 n = [s] ∧ wbW c V n = (wk c (gls c V 1 n) ||| 2 ^ c 1 s) ∧ c 2 s = 0) := by
  intro n
  induction n with
  | zero => intro _; exact ⟨fun _ => ⟨rfl, rfl⟩, fun h => absurd h (by simp [wbK])⟩
  | succ n ih =>
    intro hn
    obtain ⟨h1, h2⟩ := ih (by omega)
    have hg := (hc.2.2.2.2.2.2.1 n (by omega)).2.1
    by_cases hv : V.testBit n = true
    · have b2 : wbK c V (n + 1) = wbK c V n + (1 - c 2 n) := if_pos hv
      have b3 : wbW c V (n + 1) = wbW c V n ||| 2 ^ c 1 n := if_pos hv
      rcases (by omega : c 2 n = 0 ∨ c 2 n = 1) with g0 | g0
      · have b0 : gls c V 0 (n + 1) = n :: gls c V 0 n := if_pos ⟨hv, g0⟩
        have b1 : gls c V 1 (n + 1) = gls c V 1 n := if_neg (fun h => by have := h.2; omega)
        rw [b0, b1, b2, b3]
        refine ⟨fun h => by omega, fun h => ?_⟩
        obtain ⟨k1, k2⟩ := h1 (by omega)
        exact ⟨n, by rw [k2], by rw [k1], g0⟩
      · have b0 : gls c V 0 (n + 1) = gls c V 0 n := if_neg (fun h => by have := h.2; omega)
        have b1 : gls c V 1 (n + 1) = n :: gls c V 1 n := if_pos ⟨hv, g0⟩
        rw [b0, b1, b2, b3, wk_cons, if_pos g0]
        refine ⟨fun h => ?_, fun h => ?_⟩
        · obtain ⟨k1, k2⟩ := h1 (by omega)
          exact ⟨by rw [k1, Nat.or_comm], k2⟩
        · obtain ⟨s, k1, k2, k3⟩ := h2 (by omega)
          exact ⟨s, k1, by rw [k2, Nat.or_comm _ (2 ^ c 1 n), Nat.or_assoc], k3⟩
    · have b0 : ∀ g, gls c V g (n + 1) = gls c V g n := fun g => if_neg (fun h => hv h.1)
      have b2 : wbK c V (n + 1) = wbK c V n := if_neg hv
      have b3 : wbW c V (n + 1) = wbW c V n := if_neg hv
      rw [b0, b0, b2, b3]
      exact ⟨h1, h2⟩
/-- the row of a set works just so -/
theorem gls_wob (hc : okc c) {V e : Nat} {B : List Nat} (h : wob c V B = some e) : wk c (gls c V 1 (c 0 0) ++ (gls c V 0 (c 0 0) ++ B)) = e := by
  obtain ⟨h1, h2⟩ := gls_orr hc (V := V) (c 0 0) (Nat.le_refl _)
  rw [gls_wk hc (B := B) (c 0 0) (Nat.le_refl _)]
  unfold wob at h
  by_cases k1 : 1 < wbK c V (c 0 0)
  · rw [if_pos k1] at h
    exact absurd h (by simp)
  · rw [if_neg k1] at h
    by_cases k2 : wbK c V (c 0 0) = 1
    · rw [if_pos k2] at h
      obtain ⟨s, a1, a2, a3⟩ := h2 k2
      rw [a1, List.cons_append, List.nil_append, wk_cons, if_neg (by omega), ← a2]
      exact Option.some.inj h
    · rw [if_neg k2] at h
      obtain ⟨a1, a2⟩ := h1 (by omega)
      rw [a2, List.nil_append, ← a1]
      exact Option.some.inj h
theorem of_hasW (hc : okc c) {e : Nat} {r : List Nat} (hr : okr (c 0 0) r) (h : hasW c r e (sos c set) = true) : ∃ xs, leads c set e xs r := by
  have h5 := hc.1
  have h32 := two32 hc
  obtain ⟨V, v1, v2⟩ := exN_iff.mp h
  unfold fitW at v2
  rw [Bool.and_eq_true, Bool.and_eq_true] at v2
  have w1 := of_decide_eq_true v2.1
  have w2 := of_decide_eq_true v2.2.1
  have w3 := of_decide_eq_true v2.2.2
  obtain ⟨t, t1, t2⟩ := bas_split (sos c set) r
  have hb := bas_ok (say := sos c set) hr
  have hbl := hb.1
  have ht : ∀ s ∈ t, s < c 0 0 := fun s hs => hr.2 s (by rw [t1]; exact List.mem_append_left _ hs)
  have cnt := (gls_cnt hc (V := V) (c 0 0) (Nat.le_refl _)).2
  have hp := popN_le V (10 - c 0 0) (c 0 0)
  rw [show c 0 0 + (10 - c 0 0) = 10 by omega] at hp
  have hp2 : popN V 10 ≤ 5 - (bas (sos c set) r).length := w2
  have mem : ∀ s, s ∈ gls c V 1 (c 0 0) ++ gls c V 0 (c 0 0) → s < c 0 0 ∧ (sos c set).testBit s = true := by
    intro s hs
    have k : s < c 0 0 ∧ V.testBit s = true := by
      rcases List.mem_append.mp hs with hs | hs
      · exact ⟨(gls_mem hs).1, (gls_mem hs).2.1⟩
      · exact ⟨(gls_mem hs).1, (gls_mem hs).2.1⟩
    exact ⟨k.1, sub_bit V (by omega) _ (sos_lt hc) s (by omega) w1 k.2⟩
  have g1 := go_lifts (set := set) hc (B := bas (sos c set) r) t ht t2
  have g2 := go_lays (set := set) hc (gls c V 1 (c 0 0) ++ gls c V 0 (c 0 0)).reverse (bas (sos c set) r) (fun s hs => (mem s (List.mem_reverse.mp hs)).1) (fun s hs => (mem s (List.mem_reverse.mp hs)).2) (by rw [List.length_reverse, List.length_append]; omega)
  rw [← t1] at g1
  refine ⟨_, fun x hx => ?_, _, go_app g1 g2, ?_⟩
  · rcases List.mem_append.mp hx with hx | hx
    · rw [List.eq_of_mem_replicate hx]; decide
    · have := (mem x (List.mem_reverse.mp hx)).1
      omega
  · rw [List.reverse_reverse, List.append_assoc]
    exact gls_wob hc w3
end REACH2

/-! the class side: what a row works; the row behind a word; its cost -/
theorem wk_cons (c : Nat → Nat → Nat) (s : Nat) (r : List Nat) : wk c (s :: r) = if c 2 s = 1 then 2 ^ c 1 s ||| wk c r else 2 ^ c 1 s := rfl
theorem wk_lt {c : Nat → Nat → Nat} (hc : okc c) : ∀ {r : List Nat}, (∀ s ∈ r, s < c 0 0) → wk c r < 2 ^ 10 := by
  intro r
  induction r with
  | nil => intro _; show 0 < 2 ^ 10; decide
  | cons s r ih =>
    intro h
    have h1 := (hc.2.2.2.2.2.2.1 s (h s List.mem_cons_self)).1
    have h2 : 2 ^ c 1 s < 2 ^ 10 := Nat.pow_lt_pow_right (by decide) (by omega)
    have h3 := ih (fun z hz => h z (List.mem_cons_of_mem _ hz))
    unfold wk
    split
    · exact Nat.or_lt_two_pow h2 h3
    · exact h2
theorem okr.five {c : Nat → Nat → Nat} (hc : okc c) {r : List Nat} (h : okr (c 0 0) r) : okr 5 r := h.up hc.1
section XAF
variable {d p : Nat} {c : Nat → Nat → Nat} {w : Wd}
theorem l_worksOf (hp : scp p) (X : XS p c w) (hc : okc c) : ∀ (r : List Nat) (k o : Nat) (v1 v5 : Value), okr (c 0 0) r → k + r.length ≤ 5 → o < 2 ^ 10 → runs (T_X5_worksOf (sem (d + 2))) (7, [.ref p, v1, .int (nI o), .int (nI (cx r)), .int (nI k), v5], [], w) = some (some (.int (nI (o ||| wk c r))), w) := by
  intro r
  induction r with
  | nil =>
    intro k o v1 v5 h hk ho
    have e : o ||| wk c [] = o := Nat.or_zero o
    rw [e]
    by_cases h5 : k = 5
    · exact p_X5_worksOf_7T_R hp (by rw [h5]; decide)
    · simp only [List.length_nil] at hk
      exact p_X5_worksOf_7FT_R hp (nI_ge (b := 5) (by omega) (by decide)) (by decide)
  | cons s r ih =>
    intro k o v1 v5 h hk ho
    have h5 := hc.1
    have hr5 := h.five hc
    have hb := cx_lt hr5
    have hz : 0 < cx (s :: r) := Nat.succ_pos _
    have hs := h.hd
    obtain ⟨g1, g2, g3, g4⟩ := hc.2.2.2.2.2.2.1 s hs
    simp only [List.length_cons] at hk
    have e1 := s_at (d := d + 1) (a := p + 1) (k := s) (w := w) hp.c.1 (by rw [hp.l.1]; omega)
    rw [(X.2.2.2.2.2.2.1 s hs).1] at e1
    have e2 := s_at (d := d + 1) (a := p + 2) (k := s) (w := w) hp.c.2.1 (by rw [hp.l.2.1]; omega)
    rw [(X.2.2.2.2.2.2.1 s hs).2.1] at e2
    have h6 : 2 ^ c 1 s < 2 ^ 10 := Nat.pow_lt_pow_right (by decide) (by omega)
    have e3 : nI o ||| ((1 : Int32) <<< (nI (c 1 s) &&& 31)) = nI (o ||| 2 ^ c 1 s) := by rw [i_pow (by omega), i_or]
    rcases (by omega : c 2 s = 0 ∨ c 2 s = 1) with hg | hg
    · rw [hg] at e2
      refine (p_X5_worksOf_7FFF_R hp (nI_ge (b := 5) (by omega) (by decide)) (nI_nle hz (by omega)) (s_top hr5) e1 e2 rfl).trans ?_
      rw [e3]
      unfold wk
      rw [if_neg (by omega)]
    · rw [hg] at e2
      refine (p_X5_worksOf_7FFT_L7 hp (nI_ge (b := 5) (by omega) (by decide)) (nI_nle hz (by omega)) (s_top hr5) e1 e2 (by decide) (s_below hr5)).trans ?_
      rw [e3, nI_1]
      refine (ih (k + 1) (o ||| 2 ^ c 1 s) .null .null h.tl (by omega) (Nat.or_lt_two_pow ho h6)).trans ?_
      show _ = some (some (Value.int (nI (o ||| wk c (s :: r)))), w)
      rw [wk_cons, if_pos hg, Nat.or_assoc]
theorem s_worksOf {r : List Nat} (hp : scp p) (X : XS p c w) (hc : okc c) (h : okr (c 0 0) r) : sem (d + 3) 75 [.ref p, .int (nI (cx r))] w = some (some (.int (nI (wk c r))), w) := by
  refine e_X5_worksOf.trans ((p_X5_worksOf_0_L7 hp).trans ?_)
  refine (l_worksOf hp X hc r 0 0 _ _ h (by have := h.1; omega) (by decide)).trans ?_
  rw [Nat.zero_or]
theorem l_knows (hp : scp p) (X : XS p c w) (hc : okc c) : ∀ (r : List Nat) (k : Nat) (v1 : Value), okr 5 r → k + r.length ≤ 5 → runs (T_X5_knows (sem (d + 1))) (4, [.ref p, v1, .int (nI (cx r)), .int (nI k)], [], w) = some (some (.int (b2i (r.all (fun s => decide (s < c 0 0))))), w) := by
  intro r
  induction r with
  | nil =>
    intro k v1 h hk
    by_cases h5 : k = 5
    · exact p_X5_knows_4T_R hp (by rw [h5]; decide)
    · simp only [List.length_nil] at hk
      exact p_X5_knows_4FT_R hp (nI_ge (b := 5) (by omega) (by decide)) (by decide)
  | cons s r ih =>
    intro k v1 h hk
    have h5 := hc.1
    have hb := cx_lt h
    have hz : 0 < cx (s :: r) := Nat.succ_pos _
    have hs := h.hd
    simp only [List.length_cons] at hk
    have e1 := s_isSpell (d := d) (s := nI s) hp X.1 hc.1
    rw [List.all_cons]
    by_cases hsp : s < c 0 0
    · rw [if_pos ⟨nI_pos (by omega), nI_lt hsp (by omega)⟩] at e1
      refine (p_X5_knows_4FFT_L4 hp (nI_ge (b := 5) (by omega) (by decide)) (nI_nle hz (by omega)) (s_top h) e1 (by decide) (s_below h)).trans ?_
      rw [nI_1, decide_eq_true hsp, Bool.true_and]
      exact ih (k + 1) .null h.tl (by omega)
    · rw [if_neg (fun hh => hsp (by
        have := hh.2
        rw [fa_lt, nI_toInt (by omega), nI_toInt (by omega)] at this
        omega))] at e1
      refine (p_X5_knows_4FFF_R hp (nI_ge (b := 5) (by omega) (by decide)) (nI_nle hz (by omega)) (s_top h) e1 rfl).trans ?_
      rw [decide_eq_false hsp, Bool.false_and]
      rfl
theorem s_knows {r : List Nat} (hp : scp p) (X : XS p c w) (hc : okc c) (h : okr 5 r) : sem (d + 2) 74 [.ref p, .int (nI (cx r))] w = some (some (.int (b2i (r.all (fun s => decide (s < c 0 0))))), w) :=
  e_X5_knows.trans ((p_X5_knows_0_L4 hp).trans (l_knows hp X hc r 0 _ h (by have := h.1; omega)))
/-- the int of a row that may be none -/
def oI : Option (List Nat) → Int32
  | some q => nI (cx q)
  | none => -1
theorem s_after {r : List Nat} {set x : Nat} (hp : scp p) (X : XS p c w) (hc : okc c) (h : okr (c 0 0) r) (hs : set < 2 ^ 31) (hx : x ≤ 7) : sem (d + 4) 76 [.ref p, .int (nI (cx r)), .int (nI set), .int (nI x)] w = some (some (.int (oI (af c set r x))), w) := by
  have hr5 := h.five hc
  have hb := cx_lt hr5
  have h5 := hc.1
  refine e_X5_after.trans ?_
  rcases Nat.lt_or_ge x 5 with hx5 | hx5
  · have k1 : ¬ (5 : Int32) ≤ nI x := nI_ge (b := 5) hx5 (by decide)
    have e1 := s_isSpell (d := d + 2) (s := nI x) hp X.1 hc.1
    unfold af
    rw [if_pos hx5]
    by_cases hsp : x < c 0 0
    · rw [if_pos ⟨nI_pos (by omega), nI_lt hsp (by omega)⟩] at e1
      have e2 := s_isFull (d := d + 2) (w := w) hr5
      by_cases hf : r.length = 5
      · rw [if_pos hf] at e2
        rw [if_neg (by omega)]
        exact p_X5_after_0FFTT_R hp k1 e1 (by decide) e2 (by decide) rfl
      · rw [if_neg hf] at e2
        have e3 := s_maySay (d := d) (p := p) (set := set) (s := x) hp X hc hs (by omega)
        have hl := h.1
        cases hm : mayOne c set (2 ^ x) with
        | false =>
          rw [hm] at e3
          rw [if_neg (fun hh => absurd hh.2.2 (by decide))]
          exact p_X5_after_0FFFTT_R hp k1 e1 (by decide) e2 rfl e3 rfl rfl
        | true =>
          rw [hm] at e3
          rw [if_pos ⟨hsp, by omega, rfl⟩]
          exact p_X5_after_0FFFFF_R hp k1 e1 (by decide) e2 rfl e3 (by decide) (by decide) s_with
    · rw [if_neg (fun hh => hsp (by
        have := hh.2
        rw [fa_lt, nI_toInt (by omega), nI_toInt (by omega)] at this
        omega))] at e1
      rw [if_neg (fun hh => hsp hh.1)]
      exact p_X5_after_0FTT_R hp k1 e1 rfl rfl
  · rcases (by omega : x = 5 ∨ x = 6 ∨ x = 7) with rfl | rfl | rfl
    · cases r with
      | nil => exact p_X5_after_0TFT_R hp (by decide) rfl (by decide)
      | cons s r =>
        have hz : 0 < cx (s :: r) := Nat.succ_pos _
        have hsp := h.hd
        have e3 := s_maySay (d := d) (p := p) (set := set) (s := s) hp X hc hs (by omega)
        cases hm : mayOne c set (2 ^ s) with
        | false =>
          rw [hm] at e3
          have e : af c set (s :: r) 5 = none := by unfold af; rw [if_neg (by decide), if_pos rfl]; dsimp only; rw [hm]; rfl
          rw [e]
          exact p_X5_after_0TFFT_R hp (by decide) rfl (nI_nle hz (by omega)) (s_top hr5) e3 rfl
        | true =>
          rw [hm] at e3
          rw [af_lift' hm]
          exact p_X5_after_0TFFF_R hp (by decide) rfl (nI_nle hz (by omega)) (s_top hr5) e3 (by decide) (s_below hr5)
    · match r, h, hr5, hb with
      | [], h, hr5, hb => exact p_X5_after_0TTFTT_R hp (by decide) (by decide) rfl (s_below hr5) (by decide) rfl
      | [a], h, hr5, hb => exact p_X5_after_0TTFTT_R hp (by decide) (by decide) rfl (s_below hr5) (by show nI (cx []) ≤ 0; decide) rfl
      | a :: b :: r, h, hr5, hb =>
        have hz : 0 < cx (b :: r) := Nat.succ_pos _
        have hb2 := cx_lt hr5.tl
        have ha := h.hd
        have hb3 := h.tl.hd
        have l1 : 2 ^ a < 2 ^ 5 := Nat.pow_lt_pow_right (by decide) (by omega)
        have l2 : 2 ^ b < 2 ^ 5 := Nat.pow_lt_pow_right (by decide) (by omega)
        have l3 : 2 ^ a ||| 2 ^ b < 2 ^ 5 := Nat.or_lt_two_pow l1 l2
        have e3 := s_mayOne (d := d + 1) (p := p) (set := set) (wanted := 2 ^ a ||| 2 ^ b) hp X hc hs (by omega)
        have e4 : ((1 : Int32) <<< (nI a &&& 31)) ||| ((1 : Int32) <<< (nI b &&& 31)) = nI (2 ^ a ||| 2 ^ b) := by rw [i_pow (by omega), i_pow (by omega), i_or]
        rw [← e4] at e3
        cases hm : mayOne c set (2 ^ a ||| 2 ^ b) with
        | false =>
          rw [hm] at e3
          have e : af c set (a :: b :: r) 6 = none := by unfold af; rw [if_neg (by decide), if_neg (by decide), if_pos rfl]; dsimp only; rw [hm]; rfl
          rw [e]
          exact p_X5_after_0TTFFTT_R hp (by decide) (by decide) rfl (s_below hr5) (nI_nle hz (show cx (b :: r) < 2 ^ 31 by omega)) (s_top hr5) (s_top hr5.tl) e3 rfl rfl
        | true =>
          rw [hm] at e3
          rw [af_swap' hm]
          exact p_X5_after_0TTFFFF_R hp (by decide) (by decide) rfl (s_below hr5) (nI_nle hz (show cx (b :: r) < 2 ^ 31 by omega)) (s_top hr5) (s_top hr5.tl) e3 (by decide) (by decide) (s_swapped hr5)
    · exact p_X5_after_0TTT_R hp (by decide) (by decide) (by decide)
theorem s_costOf {r : List Nat} {set x : Nat} {q : List Nat} (hp : scp p) (X : XS p c w) (hc : okc c) (h : okr (c 0 0) r) (hx : x ≤ 7) (ha : af c set r x = some q) : sem (d + 3) 77 [.ref p, .int (nI (cx r)), .int (nI x)] w = some (some (.int (nI (cst c r x))), w) := by
  refine e_X5_costOf.trans ?_
  unfold cst
  rcases Nat.lt_or_ge x 5 with hx5 | hx5
  · rw [if_pos hx5]
    exact p_X5_costOf_0F_R hp (nI_ge (b := 5) hx5 (by decide)) (s_layCost hp X hc (af_lay hx5 ha).1.1)
  · rcases (by omega : x = 5 ∨ x = 6 ∨ x = 7) with rfl | rfl | rfl
    · obtain ⟨s, rfl, _⟩ := af_lift ha
      exact p_X5_costOf_0TF_R hp (by decide) rfl (s_top (h.five hc)) (s_liftCost hp X hc h.hd)
    · have := p_X5_costOf_0TTF_R (ex := sem (d + 2)) (x1 := nI (cx r)) (x2 := 6) (w := w) hp (by decide) (by decide) rfl
      rw [X.2.2.2.1] at this
      exact this
    · exact p_X5_costOf_0TTT_R hp (by decide) (by decide) (by decide)
end XAF

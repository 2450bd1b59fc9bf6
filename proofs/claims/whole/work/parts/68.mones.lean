/-! the reference side: how many in a set; the set of a row -/
def rset : List Nat → Nat
  | [] => 0
  | s :: r => 2 ^ s ||| rset r
theorem rset_lt {r : List Nat} : (∀ s ∈ r, s < 5) → rset r < 2 ^ 5 := by
  induction r with
  | nil => intro _; show 0 < 2 ^ 5; decide
  | cons s r ih =>
    intro h
    have h1 := h s List.mem_cons_self
    exact Nat.or_lt_two_pow (Nat.pow_lt_pow_right (by decide) h1) (ih (fun z hz => h z (List.mem_cons_of_mem _ hz)))
section MONES
variable {d : Nat} {w : Wd}
theorem l_ones {V : Nat} (hV : V < 2 ^ 31) : ∀ (m k : Nat), m + k = 10 → runs (T_X9_ones (sem d)) (4, [.int (nI V), .int (nI (popN V k)), .int (nI k)], [], w) = some (some (.int (nI (pop V))), w) := by
  intro m
  induction m with
  | zero =>
    intro k hk
    have ek : k = 10 := by omega
    subst ek
    exact p_X9_ones_4T_R (by decide)
  | succ m ih =>
    intro k hk
    refine (p_X9_ones_4F_L4 (nI_ge (a := k) (b := 10) (by omega) (by decide))).trans ?_
    rw [i_bit hV (by omega), nI_add, nI_1]
    exact ih (k + 1) (by omega)
theorem m_ones {V : Nat} (hV : V < 2 ^ 31) : sem (d + 1) 136 [.int (nI V)] w = some (some (.int (nI (pop V))), w) :=
  e_X9_ones.trans (p_X9_ones_0_L4.trans (l_ones hV 10 0 (by omega)))
theorem l_spellsIn : ∀ (r : List Nat) (o : Nat) (v0 v1 : Value), okr 5 r → runs (T_X9_spellsIn (sem d)) (4, [v0, v1, .int (nI o), .int (nI (cm r))], [], w) = some (some (.int (nI (o ||| rset r))), w) := by
  intro r
  induction r with
  | nil =>
    intro o v0 v1 h
    rw [show o ||| rset [] = o from Nat.or_zero o]
    exact p_X9_spellsIn_4T_R (by decide)
  | cons s r ih =>
    intro o v0 v1 h
    have hb := cm_lt h
    have hs := h.hd
    rw [cm_cons] at hb ⊢
    refine (p_X9_spellsIn_4F_L4 (nI_nle (by omega) (by omega))).trans ?_
    rw [i_mod6 (by omega) hs, show nI (s + 1) - 1 = nI s from nI_pred s, i_pow (by omega), i_or, i_div6 (by omega) hs]
    refine (ih (o ||| 2 ^ s) .null .null h.tl).trans ?_
    rw [Nat.or_assoc]
    rfl
theorem m_spellsIn {r : List Nat} (h : okr 5 r) : sem (d + 1) 178 [.ref 34, .int (nI (cm r))] w = some (some (.int (nI (rset r))), w) := by
  refine e_X9_spellsIn.trans (p_X9_spellsIn_0_L4.trans ?_)
  refine (l_spellsIn r 0 _ _ h).trans ?_
  rw [Nat.zero_or]
end MONES

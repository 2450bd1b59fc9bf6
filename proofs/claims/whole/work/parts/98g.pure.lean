/-! the first world; the pure statement -/
theorem okr_0 {r : List Nat} (h : okr 0 r) : r = [] := by
  cases r with
  | nil => rfl
  | cons s r => exact absurd (h.2 s List.mem_cons_self) (Nat.not_lt_zero _)
theorem w0_47 : ∀ y, w0.1 47 y = if y = 0 then 1 else 0 := by
  intro y
  show upd (fun _ => 0) 0 (vp_nar .boolean 1) y = _
  rw [nar1]
  rfl
theorem jn0 : Jn w0 := by
  refine ⟨20, bgD.1, fun _ => [], 0, [], fun _ => none, [], fun _ => 0, 0, 0, Or.inl rfl, ?_, ?_, ?_⟩
  · refine ⟨okD_new.1, ⟨fun _ _ => okr.nil, ⟨by decide, fun u h => absurd h List.not_mem_nil⟩, fun j q h => absurd h (by simp)⟩, fun _ _ _ => rfl, fun u h => absurd h List.not_mem_nil, fun j q h => absurd h (by simp), ⟨by decide, fun q h => absurd h List.not_mem_nil⟩, ⟨by decide, fun i h => absurd h (Nat.not_lt_zero _)⟩⟩
  · refine ⟨⟨rfl, rfl, rfl, rfl, rfl, rfl, fun s h => absurd h (Nat.not_lt_zero _), fun s h => absurd h (Nat.not_lt_zero _)⟩, ⟨⟨fun t ht => rfl, rfl⟩, ?_, ?_⟩, ⟨rfl, fun i h => absurd h (Nat.not_lt_zero _)⟩, ⟨rfl, fun i h => absurd h (Nat.not_lt_zero _)⟩, rfl, rfl, rfl⟩
    · exact ⟨rfl, 0, by decide, rfl, fun i h => absurd h (Nat.not_lt_zero _)⟩
    · exact ⟨0, by decide, rfl, fun j hj => ⟨fun _ => Nat.zero_testBit j, fun q h => absurd h (by simp)⟩⟩
  · refine ⟨⟨rfl, rfl, rfl, rfl, rfl, rfl, fun s h => absurd h (Nat.not_lt_zero _), fun s h => absurd h (Nat.not_lt_zero _)⟩, ⟨fun t ht => rfl, rfl⟩, ⟨rfl, fun i h => absurd h (Nat.not_lt_zero _)⟩, fun j hj => ⟨fun _ => rfl, fun q h => absurd h (by simp)⟩, ⟨rfl, fun i h => absurd h (Nat.not_lt_zero _)⟩, ⟨rfl, fun i h => absurd h (Nat.not_lt_zero _)⟩, rfl, Or.inl rfl, ?_, ?_⟩
    · intro y hy
      rw [w0_47]
      by_cases e : y = 0
      · subst e
        rw [if_pos rfl]
        exact Or.inr ⟨by decide, [], okr.nil, rfl⟩
      · rw [if_neg e]
        refine Or.inl ⟨rfl, fun r hr h => e ?_⟩
        rw [okr_0 hr] at h
        exact h.symm
    · intro y hy
      rw [w0_47]
      by_cases e : y = 0
      · rw [if_pos e]; exact Or.inr rfl
      · rw [if_neg e]; exact Or.inl rfl
theorem law_pure : LawPure := by
  intro L xs hL
  exact l_law hL L 0 w0 (by omega) (by omega) jn0

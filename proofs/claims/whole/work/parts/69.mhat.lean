/-! the reference side: what can be the hat -/
def MHt (ht : List (Nat × Nat)) (w : Wd) : Prop :=
  w.1 34 26 = nI ht.length ∧ ∀ (i : Nat) (h : i < ht.length), w.1 44 i = nI (ht[i]).1 ∧ w.1 45 i = nI (ht[i]).2
section MHAT
variable {d : Nat} {c : Nat → Nat → Nat} {w : Wd}
theorem l_isHat {r : List Nat} {ht : List (Nat × Nat)} (M : MS c w) (hc : okc c) (H : MHt ht w) (hh : okh ht) (hr : okr (c 0 0) r) : ∀ (m k : Nat) (b : Bool), m + k = ht.length → runs (T_X9_isHat (sem (d + 1))) (9, [.ref 34, .int (nI (cm r)), .int (b2i b), .int (nI k)], [], w) = some (some (.int (b2i (b && (ht.drop k).all (fun q => ansN c r q.1 == q.2)))), w) := by
  have h6 := hh.1
  have hr5 := hr.five hc
  intro m
  induction m with
  | zero =>
    intro k b hk
    have ek : k = ht.length := by omega
    rw [ek, List.drop_length, List.all_nil, Bool.and_true]
    exact p_X9_isHat_9T_R (by rw [H.1]; exact nI_le (Nat.le_refl _) (by omega)) (b2i_01 b)
  | succ m ih =>
    intro k b hk
    have hlt : k < ht.length := by omega
    have h1 : ¬ (w.1 34 26) ≤ nI k := by rw [H.1]; exact nI_ge hlt (by omega)
    cases b with
    | false =>
      rw [Bool.false_and]
      exact p_X9_isHat_9FT_R h1 rfl (Or.inl rfl)
    | true =>
      obtain ⟨g1, g2⟩ := H.2 k hlt
      obtain ⟨g3, g4⟩ := hh.2 (ht[k]) (List.getElem_mem hlt)
      have hl := hr.1
      have hv : vp_in (nI k) 6 := vp_in_nI (by omega) (by decide)
      have hcl : (nI k).toNatClampNeg = k := nI_clamp (by omega)
      have e1 := m_layersOf (d := d) (w := w) hr5
      have z1 : w.1 44 (nI k).toNatClampNeg = nI (ht[k]).1 := by rw [hcl]; exact g1
      have z2 : w.1 45 (nI k).toNatClampNeg = nI (ht[k]).2 := by rw [hcl]; exact g2
      rw [Bool.true_and, List.drop_eq_getElem_cons hlt, List.all_cons]
      have nx := fun b => ih (k + 1) b (by omega)
      by_cases hsh : r.length < (ht[k]).1
      · have ea : (ansN c r (ht[k]).1 == (ht[k]).2) = false := by
          unfold ansN
          rw [if_pos hsh, beq_eq_false_iff_ne]
          omega
        refine (p_X9_isHat_9FFT_L9 h1 (by decide) e1 hv (by rw [z1]; exact nI_lt hsh (by omega))).trans ?_
        rw [nI_1, ea]
        exact nx false
      · have e2 := m_withoutTop (d := d) (n := (ht[k]).1) (w := w) hr5 (by omega)
        rw [← z1] at e2
        have e3 := m_worksOf (d := d) M hc (hr.drop (ht[k]).1)
        have hw := wk_lt hc (hr.drop (ht[k]).1).2
        have k2 : ¬ nI r.length < w.1 44 (nI k).toNatClampNeg := by rw [z1]; exact nI_nlt (by omega) (by omega)
        have ea : ansN c r (ht[k]).1 = wk c (r.drop (ht[k]).1) := if_neg hsh
        rw [ea]
        by_cases he : wk c (r.drop (ht[k]).1) = (ht[k]).2
        · refine (p_X9_isHat_9FFFF_L9 h1 (by decide) e1 hv k2 hv e2 e3 hv (by rw [z2, he])).trans ?_
          rw [nI_1, beq_iff_eq.mpr he]
          exact nx true
        · refine (p_X9_isHat_9FFFT_L9 h1 (by decide) e1 hv k2 hv e2 e3 hv (by rw [z2]; exact fun h => he ((nI_eq (by omega) (by omega)).mp h))).trans ?_
          rw [nI_1, beq_eq_false_iff_ne.mpr he]
          exact nx false
end MHAT

/-! the hat: saw, forget, could, under agree -/
theorem dm_cm : ∀ (n : Nat) (r : List Nat), r.length ≤ n → (∀ s ∈ r, s < 5) → dm n (cm r) = some r := by
  intro n
  induction n with
  | zero =>
    intro r h _
    cases r with
    | nil => rfl
    | cons s r => exact absurd h (by simp)
  | succ n ih =>
    intro r h h5
    cases r with
    | nil => exact if_pos rfl
    | cons s r =>
      have hs := h5 s List.mem_cons_self
      simp only [List.length_cons] at h
      have e : dm (n + 1) (cm (s :: r)) = if cm (s :: r) = 0 then some [] else if cm (s :: r) % 6 = 0 then none else (dm n (cm (s :: r) / 6)).map (fun r2 => (cm (s :: r) % 6 - 1) :: r2) := rfl
      rw [e, cm_cons, if_neg (by omega), if_neg (by omega), show (6 * cm r + s + 1) / 6 = cm r by omega, show (6 * cm r + s + 1) % 6 - 1 = s by omega, ih r (by omega) (fun z hz => h5 z (List.mem_cons_of_mem _ hz))]
      rfl
theorem dm_some : ∀ (n y : Nat) (r : List Nat), dm n y = some r → cm r = y ∧ r.length ≤ n ∧ ∀ s ∈ r, s < 5 := by
  intro n
  induction n with
  | zero =>
    intro y r h
    unfold dm at h
    split at h
    · rename_i h0
      rw [← Option.some.inj h, h0]
      exact ⟨rfl, Nat.le_refl _, fun s hs => absurd hs List.not_mem_nil⟩
    · exact absurd h (by simp)
  | succ n ih =>
    intro y r h
    unfold dm at h
    split at h
    · rename_i h0
      rw [← Option.some.inj h, h0]
      exact ⟨rfl, Nat.zero_le _, fun s hs => absurd hs List.not_mem_nil⟩
    · split at h
      · exact absurd h (by simp)
      · rename_i h0 h6
        cases hd : dm n (y / 6) with
        | none => rw [hd] at h; exact absurd h (by simp)
        | some q =>
          rw [hd] at h
          have h := Option.some.inj h
          obtain ⟨g1, g2, g3⟩ := ih _ _ hd
          rw [← h]
          refine ⟨by rw [cm_cons, g1]; omega, by simp only [List.length_cons]; omega, fun s hs => ?_⟩
          rcases List.mem_cons.mp hs with rfl | hs
          · omega
          · exact g3 s hs
/-- whether a number is one that can be the hat -/
def hatY (c : Nat → Nat → Nat) (ht : List (Nat × Nat)) (y : Nat) : Bool := match dm 5 y with
  | some r => hatOk c ht r
  | none => false
section HAT
variable {w : Wd}
theorem m_isHat {d y : Nat} {c : Nat → Nat → Nat} {ht : List (Nat × Nat)} (M : MS c w) (hc : okc c) (H : MHt ht w) (hh : okh ht) (V : MVZ c w) (hy : y < 216) : sem (d + 2) 183 [.ref 34, .int (nI y)] w = some (some (.int (b2i (hatY c ht y))), w) := by
  have h6 := hh.1
  have t0 := p_X9_isHat_0_L9 (ex := sem (d + 1)) (x1 := nI y) (w := w) (vp_in_nI (by omega) (by decide))
  rw [nI_clamp (by omega)] at t0
  have no : w.1 47 y = 0 → hatY c ht y = false → sem (d + 2) 183 [.ref 34, .int (nI y)] w = some (some (.int (b2i (hatY c ht y))), w) := fun h0 hf => by
    rw [h0] at t0
    rw [hf]
    refine e_X9_isHat.trans (t0.trans ?_)
    by_cases hl : ht.length = 0
    · exact p_X9_isHat_9T_R (by rw [H.1, hl]; decide) (Or.inl rfl)
    · exact p_X9_isHat_9FT_R (by rw [H.1]; exact nI_ge (a := 0) (by omega) (by omega)) rfl (Or.inl rfl)
  rcases V.1 y (by omega) with ⟨v0, vn⟩ | ⟨v0, r, hr, hry⟩
  · refine no v0 ?_
    unfold hatY
    cases hd : dm 5 y with
    | none => rfl
    | some r =>
      obtain ⟨g1, g2, g3⟩ := dm_some _ _ _ hd
      show hatOk c ht r = false
      unfold hatOk
      cases ha : r.all (fun s => decide (s < c 0 0)) with
      | false => rfl
      | true => exact absurd g1 (vn r ⟨g2, fun s hs => of_decide_eq_true (List.all_eq_true.mp ha s hs)⟩)
  · have v1 : w.1 47 y = 1 := (V.2 y (by omega)).resolve_left v0
    have hd : dm 5 y = some r := by rw [← hry]; exact dm_cm 5 r hr.1 (hr.five hc).2
    have ey : hatY c ht y = ht.all (fun q => ansN c r q.1 == q.2) := by
      unfold hatY
      rw [hd]
      show hatOk c ht r = _
      unfold hatOk
      have ha : r.all (fun s => decide (s < c 0 0)) = true := List.all_eq_true.mpr (fun s hs => decide_eq_true (hr.2 s hs))
      rw [ha, Bool.true_and]
    rw [v1, ← hry] at t0
    have t1 := l_isHat (d := d) M hc H hh hr ht.length 0 true (by omega)
    rw [Bool.true_and, List.drop_zero, ← ey, hry] at t1
    rw [hry] at t0
    exact e_X9_isHat.trans (t0.trans t1)
/-- a step at the reference's number -/
def stM {α : Type} (f : α → List Nat → α) (a : α) (y : Nat) : α := match dm 5 y with
  | some r => f a r
  | none => a
theorem stM_no {α : Type} {c : Nat → Nat → Nat} {ht : List (Nat × Nat)} {f : α → List Nat → α} {a : α} {y : Nat} (hf : ∀ r, hatOk c ht r = false → f a r = a) (h : hatY c ht y = false) : stM f a y = a := by
  unfold stM
  unfold hatY at h
  cases hd : dm 5 y with
  | none => rfl
  | some r => rw [hd] at h; exact hf r h
theorem hatY_t {c : Nat → Nat → Nat} {ht : List (Nat × Nat)} {y : Nat} (h : hatY c ht y = true) : ∃ r, dm 5 y = some r ∧ hatOk c ht r = true ∧ cm r = y ∧ okr (c 0 0) r ∧ okr 5 r := by
  unfold hatY at h
  cases hd : dm 5 y with
  | none => rw [hd] at h; exact absurd h Bool.false_ne_true
  | some r =>
    rw [hd] at h
    have h : hatOk c ht r = true := h
    obtain ⟨g1, g2, g3⟩ := dm_some _ _ _ hd
    refine ⟨r, rfl, h, g1, ⟨g2, fun s hs => ?_⟩, ⟨g2, g3⟩⟩
    unfold hatOk at h
    rw [Bool.and_eq_true] at h
    exact of_decide_eq_true (List.all_eq_true.mp h.1 s hs)
theorem stM_t {α : Type} {f : α → List Nat → α} {a : α} {y : Nat} {r : List Nat} (h : dm 5 y = some r) : stM f a y = f a r := by
  unfold stM
  rw [h]
theorem hat_foldM {α : Type} (f : α → List Nat → α) (a : α) : foN (stM f) a 216 = foN (fun a x => f a (dx 5 x)) a 156 := hat_fold f a
theorem l_could {c : Nat → Nat → Nat} {ht : List (Nat × Nat)} {d : Nat} (M : MS c w) (hc : okc c) (H : MHt ht w) (hh : okh ht) (V : MVZ c w) : ∀ (m k : Nat), m + k = 216 → runs (T_X9_could (sem (d + 2))) (9, [.ref 34, .int (nI (foN (stM (hCnt c ht)) 0 k)), .int (nI k)], [], w) = some (some (.int (nI (foN (stM (hCnt c ht)) 0 216))), w) := by
  intro m
  induction m with
  | zero =>
    intro k hk
    have ek : k = 216 := by omega
    subst ek
    exact p_X9_could_9T_R (by decide)
  | succ m ih =>
    intro k hk
    have g1 : ¬ (216 : Int32) ≤ nI k := nI_ge (a := k) (b := 216) (by omega) (by decide)
    have e1 := m_isHat (d := d) M hc H hh V (y := k) (by omega)
    have e2 : foN (stM (hCnt c ht)) 0 (k + 1) = stM (hCnt c ht) (foN (stM (hCnt c ht)) 0 k) k := rfl
    have nx := ih (k + 1) (by omega)
    rw [e2] at nx
    cases hy : hatY c ht k with
    | false =>
      rw [hy] at e1
      rw [stM_no (c := c) (ht := ht) (fun r h => if_neg (by rw [h]; decide)) hy] at nx
      refine (p_X9_could_9FT_L9 g1 e1 rfl).trans ?_
      rw [Int32.add_zero, nI_1]
      exact nx
    | true =>
      rw [hy] at e1
      obtain ⟨r, r1, r2, _⟩ := hatY_t hy
      rw [stM_t r1] at nx
      have e3 : hCnt c ht (foN (stM (hCnt c ht)) 0 k) r = foN (stM (hCnt c ht)) 0 k + 1 := if_pos r2
      rw [e3] at nx
      refine (p_X9_could_9FF_L9 g1 e1 (by decide)).trans ?_
      rw [nI_1, nI_1]
      exact nx
theorem agr_could (J : Jn w) : agr 120 184 [.ref 0] [.ref 34] w := by
  obtain ⟨p, c, rs, sp, us, im, ht, bt, n, tr, hp, ok, X, M⟩ := J
  have hc := ok.1
  have hh := ok.2.2.2.2.2.1
  have e1 := s_possible (d := 33) hp X.1 hc X.2.2.1 hh
  refine agr_q hp ok X M (e_X8_could.trans (p_X8_could_0_R hp X.2.2.2.2.2.1 e1)) (xch.refl w) (fun w' M' => ?_)
  have M1 := M'.thr
  have t := l_could (d := 37) M1.1 hc M1.2.2.2.2.1 hh M1.2.2.2.2.2.2.2.2 216 0 (by omega)
  rw [hat_foldM] at t
  exact ⟨_, e_X9_could.trans (p_X9_could_0_L9.trans t), mch.thr w', M'.2.2.2.2.2.2.2.1.thr⟩
theorem l_munder {c : Nat → Nat → Nat} {ht : List (Nat × Nat)} {d e : Nat} (M : MS c w) (hc : okc c) (H : MHt ht w) (hh : okh ht) (V : MVZ c w) (he : e < 2 ^ 31) : ∀ (m k : Nat) (v4 : Value), m + k = 216 → runs (T_X9_under (sem (d + 2))) (21, [.ref 34, .int (nI e), .int (foN (stM (hUnd c ht e)) (-9) k), .int (nI k), v4], [], w) = some (some (.int (foN (stM (hUnd c ht e)) (-9) 216)), w) := by
  intro m
  induction m with
  | zero =>
    intro k v4 hk
    have ek : k = 216 := by omega
    subst ek
    exact p_X9_under_21T_R (by decide)
  | succ m ih =>
    intro k v4 hk
    have g1 : ¬ (216 : Int32) ≤ nI k := nI_ge (a := k) (b := 216) (by omega) (by decide)
    have e1 := m_isHat (d := d) M hc H hh V (y := k) (by omega)
    have e2 : foN (stM (hUnd c ht e)) (-9) (k + 1) = stM (hUnd c ht e) (foN (stM (hUnd c ht e)) (-9) k) k := rfl
    have nx := ih (k + 1) .null (by omega)
    rw [e2] at nx
    generalize foN (stM (hUnd c ht e)) (-9) k = a at *
    cases hy : hatY c ht k with
    | false =>
      rw [hy] at e1
      rw [stM_no (c := c) (ht := ht) (fun r h => if_neg (by rw [h]; decide)) hy] at nx
      refine (p_X9_under_21FT_L21 g1 e1 rfl).trans ?_
      rw [nI_1]
      exact nx
    | true =>
      rw [hy] at e1
      obtain ⟨r, r1, r2, r3, _, r5⟩ := hatY_t hy
      rw [stM_t r1] at nx
      have e3 : hUnd c ht e a r = if a = -9 ∨ a = tpI (r.drop e) then tpI (r.drop e) else -5 := if_pos r2
      rw [e3] at nx
      have e4 := m_spellAt (d := d + 1) (w := w) (n := e) r5 he
      rw [r3] at e4
      have h9 := spI_9 (r5.drop e).2
      cases hd : r.drop e with
      | nil =>
        rw [hd] at e4 nx
        have tp : tpI [] = -5 := rfl
        rw [tp] at nx
        have nx2 : runs (T_X9_under (sem (d + 2))) (21, [.ref 34, .int (nI e), .int (-5), .int (nI (k + 1)), .null], [], w) = some (some (.int (foN (stM (hUnd c ht e)) (-9) 216)), w) := by
          have : (if a = -9 ∨ a = -5 then (-5 : Int32) else -5) = -5 := by split <;> rfl
          rw [this] at nx
          exact nx
        by_cases h1 : a = -9
        · refine (p_X9_under_21FFFT_L21 g1 e1 (by decide) e4 rfl h1).trans ?_
          rw [nI_1]; exact nx2
        · by_cases h2 : a = -5
          · refine (p_X9_under_21FFFFF_L21 g1 e1 (by decide) e4 rfl h1 h2).trans ?_
            rw [nI_1]; exact nx2
          · refine (p_X9_under_21FFFFT_L21 g1 e1 (by decide) e4 rfl h1 h2).trans ?_
            rw [nI_1]; exact nx2
      | cons s q =>
        rw [hd] at e4 nx h9
        have n9 : ¬ spI (s :: q) = -9 := fun h => absurd (h9.mp h) (by simp)
        have es : spI (s :: q) = tpI (s :: q) := rfl
        by_cases h1 : a = -9
        · rw [if_pos (Or.inl h1)] at nx
          refine (p_X9_under_21FFTT_L21 g1 e1 (by decide) e4 n9 e4 h1).trans ?_
          rw [nI_1, es]; exact nx
        · by_cases h2 : a = spI (s :: q)
          · rw [if_pos (Or.inr (h2.trans es))] at nx
            refine (p_X9_under_21FFTFF_L21 g1 e1 (by decide) e4 n9 e4 h1 h2).trans ?_
            rw [nI_1, es]; exact nx
          · rw [if_neg (fun h => h.elim h1 (fun h => h2 (h.trans es.symm)))] at nx
            refine (p_X9_under_21FFTFT_L21 g1 e1 (by decide) e4 n9 e4 h1 h2).trans ?_
            rw [nI_1]; exact nx
theorem agr_under {x1 : Int32} (J : Jn w) : agr 121 185 [.ref 0, .int x1] [.ref 34, .int x1] w := by
  obtain ⟨p, c, rs, sp, us, im, ht, bt, n, tr, hp, ok, X, M⟩ := J
  have hc := ok.1
  have hh := ok.2.2.2.2.2.1
  rcases in_cs (x := x1) (N := 3) (by decide) with ⟨e, he, rfl⟩ | h1
  · have e1 := s_spellAt (d := 33) (n := e) hp X.1 hc X.2.2.1 hh (by omega)
    refine agr_q hp ok X M (e_X8_under.trans (p_X8_under_0FT_R hp (nI_pos (by omega)) (nI_lt (b := 3) he (by decide)) X.2.2.2.2.2.1 e1)) (xch.refl w) (fun w' M' => ?_)
    have M1 := M'.thr
    have t := l_munder (d := 37) (e := e) M1.1 hc M1.2.2.2.2.1 hh M1.2.2.2.2.2.2.2.2 (by omega) 216 0 .null (by omega)
    rw [hat_foldM] at t
    exact ⟨_, e_X9_under.trans ((p_X9_under_0T_L21 (m_inL1 (d := 38) (N := 3) (by decide) (by decide) he) (by decide)).trans t), mch.thr w', M'.2.2.2.2.2.2.2.1.thr⟩
  · have bx : sem 40 121 [.ref 0, .int x1] w = some (some (.int (-1)), w) := by
      rcases out_cs h1 with h | ⟨h, h2⟩
      · exact e_X8_under.trans (p_X8_under_0T_R hp h)
      · exact e_X8_under.trans (p_X8_under_0FF_R hp h (i_le_nlt h2))
    exact agr_q hp ok X M bx (xch.refl w)
      (fun w' M' => ⟨_, e_X9_under.trans (p_X9_under_0F_R (m_inL0 (d := 38) (N := 3) (by decide) (by decide) h1) rfl), mch.thr w', M'.2.2.2.2.2.2.2.1.thr⟩)
end HAT

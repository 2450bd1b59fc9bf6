/-! the hat -/
/-- a world with the ints of one place changed -/
def chg (w : Wd) (a : Nat) (g : Nat → Int32) : Wd := (fun q => if q = a then g else w.1 q, w.2)
theorem chg_at (w : Wd) (a : Nat) (g : Nat → Int32) : (chg w a g).1 a = g := if_pos rfl
theorem chg_ne (w : Wd) {a b : Nat} (g : Nat → Int32) (h : b ≠ a) : (chg w a g).1 b = w.1 b := if_neg h
theorem chg_chg (w : Wd) (a : Nat) (g g2 : Nat → Int32) : chg (chg w a g) a g2 = chg w a g2 := by
  unfold chg
  dsimp only
  congr 1
  funext q
  by_cases h : q = a
  · rw [if_pos h, if_pos h]
  · rw [if_neg h, if_neg h, if_neg h]
theorem updI_chg (w : Wd) (a k : Nat) (x : Int32) : updI w a k x = chg w a (upd (w.1 a) k x) := rfl
theorem filW_chg (w : Wd) (a n : Nat) (v : Int32) : filW w a n v = chg w a (fun k => if k < n then v else w.1 a k) := rfl
theorem upd_at (f : Nat → Int32) (k : Nat) (x : Int32) : upd f k x k = x := if_pos rfl
theorem upd_ne (f : Nat → Int32) {k j : Nat} (x : Int32) (h : j ≠ k) : upd f k x j = f j := if_neg h
theorem XS.of {p : Nat} {c : Nat → Nat → Nat} {w w2 : Wd} (hp : scp p) (h : ∀ q, 20 ≤ q → q < 34 → w2.1 q = w.1 q) (X : XS p c w) : XS p c w2 := by
  have hb : 20 ≤ p ∧ p + 6 < 34 := by rcases hp with rfl | rfl <;> omega
  obtain ⟨h1, h2, h3, h4, h5, h6, h7, h8⟩ := X
  have e := h p (by omega) (by omega)
  have e1 := h (p + 1) (by omega) (by omega)
  have e2 := h (p + 2) (by omega) (by omega)
  have e3 := h (p + 3) (by omega) (by omega)
  have e4 := h (p + 4) (by omega) (by omega)
  have e6 := h (p + 6) (by omega) (by omega)
  unfold XS
  rw [e, e1, e2, e3, e4, e6]
  exact ⟨h1, h2, h3, h4, h5, h6, h7, h8⟩
theorem XS.chg {p a : Nat} {c : Nat → Nat → Nat} {w : Wd} {g : Nat → Int32} (hp : scp p) (ha : a < 20 ∨ 34 ≤ a) (X : XS p c w) : XS p c (chg w a g) :=
  X.of hp (fun q h1 h2 => chg_ne w g (by omega))
/-- what is seen when so many layers are lifted; 1024: there are fewer -/
def ansN (c : Nat → Nat → Nat) (r : List Nat) (l : Nat) : Nat := if r.length < l then 1024 else wk c (r.drop l)
/-- what was seen of the hat -/
def XHt (ht : List (Nat × Nat)) (w : Wd) : Prop :=
  w.1 15 2 = nI ht.length ∧ ∀ (i : Nat) (h : i < ht.length), w.1 16 i = nI (ht[i]).1 ∧ w.1 17 i = nI (ht[i]).2
def okh (ht : List (Nat × Nat)) : Prop := ht.length ≤ 6 ∧ ∀ q ∈ ht, q.1 ≤ 3 ∧ q.2 < 1024
def hatOk (c : Nat → Nat → Nat) (ht : List (Nat × Nat)) (r : List Nat) : Bool := r.all (fun s => decide (s < c 0 0)) && ht.all (fun q => ansN c r q.1 == q.2)
/-- steps over numbers, from below -/
def foN {α : Type} (step : α → Nat → α) (a : α) : Nat → α
  | 0 => a
  | n + 1 => step (foN step a n) n
/-- what the rows of the hat are asked for -/
def hCnt (c : Nat → Nat → Nat) (ht : List (Nat × Nat)) (n : Nat) (r : List Nat) : Nat := if hatOk c ht r = true then n + 1 else n
def hUnd (c : Nat → Nat → Nat) (ht : List (Nat × Nat)) (d : Nat) (s : Int32) (r : List Nat) : Int32 :=
  if hatOk c ht r = true then (if s = -9 ∨ s = tpI (r.drop d) then tpI (r.drop d) else -5) else s
def hAns (c : Nat → Nat → Nat) (ht : List (Nat × Nat)) (l : Nat) (A : List Nat) (r : List Nat) : List Nat :=
  if hatOk c ht r = true then ansN c r l :: A else A
/-- how often the most frequent is there -/
def mxm : List Nat → Nat
  | [] => 0
  | a :: A => max (mxm A) (A.count a + 1)
theorem mxm_le (A : List Nat) : mxm A ≤ A.length := by
  induction A with
  | nil => exact Nat.le_refl _
  | cons a A ih =>
    have := List.count_le_length (a := a) (l := A)
    unfold mxm
    simp only [List.length_cons]
    omega
theorem dx3 : ∀ x : Nat, x < 156 → (dx 5 x).length ≤ 3 := by decide +kernel
section XHAT
variable {d p : Nat} {c : Nat → Nat → Nat} {w : Wd}
theorem s_answerOf {r : List Nat} {l : Nat} (hp : scp p) (X : XS p c w) (hc : okc c) (hr : okr (c 0 0) r) (hl : l < 2 ^ 31) : sem (d + 4) 10 [.ref p, .int (nI (cx r)), .int (nI l)] w = some (some (.int (nI (ansN c r l))), w) := by
  have hr5 := hr.five hc
  have h1 := hr.1
  have e1 := s_depth (d := d + 1) (w := w) hr5
  unfold ansN
  by_cases h : r.length < l
  · rw [if_pos h]
    exact e_X1_answerOf.trans (p_X1_answerOf_0F_R hp e1 (nI_ge h hl))
  · rw [if_neg h]
    exact e_X1_answerOf.trans (p_X1_answerOf_0T_R hp e1 (nI_le (by omega) (by omega)) (s_without hr5 hl) (s_worksOf hp X hc (hr.drop l)))
theorem l_canBe {r : List Nat} {ht : List (Nat × Nat)} (hp : scp p) (X : XS p c w) (hc : okc c) (H : XHt ht w) (hh : okh ht) (hr : okr (c 0 0) r) : ∀ (m k : Nat), m + k = ht.length → runs (T_X1_canBe (sem (d + 4))) (12, [.ref 15, .ref p, .int (nI (cx r)), .int (nI k)], [], w) = some (some (.int (b2i ((ht.drop k).all (fun q => ansN c r q.1 == q.2)))), w) := by
  have h6 := hh.1
  intro m
  induction m with
  | zero =>
    intro k hk
    have ek : k = ht.length := by omega
    rw [ek, List.drop_length]
    exact p_X1_canBe_12T_R hp (by rw [H.1]; exact nI_le (Nat.le_refl _) (by omega))
  | succ m ih =>
    intro k hk
    have hlt : k < ht.length := by omega
    have h1 : ¬ (w.1 15 2) ≤ nI k := by rw [H.1]; exact nI_ge hlt (by omega)
    obtain ⟨g1, g2⟩ := H.2 k hlt
    obtain ⟨g3, g4⟩ := hh.2 (ht[k]) (List.getElem_mem hlt)
    have e1 := s_at (d := d + 3) (a := 16) (k := k) (w := w) rfl (by show k < 6; omega)
    rw [g1] at e1
    have e2 := s_answerOf (d := d) (l := (ht[k]).1) hp X hc hr (by omega)
    have e3 := s_at (d := d + 3) (a := 17) (k := k) (w := w) rfl (by show k < 6; omega)
    rw [g2] at e3
    have ha : ansN c r (ht[k]).1 < 2 ^ 11 := by
      unfold ansN
      have := wk_lt hc (r := r.drop (ht[k]).1) (hr.drop _).2
      split <;> omega
    rw [List.drop_eq_getElem_cons hlt, List.all_cons]
    by_cases he : ansN c r (ht[k]).1 = (ht[k]).2
    · refine (p_X1_canBe_12FT_L12 hp h1 e1 e2 e3 (by rw [he])).trans ?_
      rw [nI_1, beq_iff_eq.mpr he, Bool.true_and]
      exact ih (k + 1) (by omega)
    · refine (p_X1_canBe_12FF_R hp h1 e1 e2 e3 (fun h => he ((nI_eq (by omega) (by omega)).mp h))).trans ?_
      rw [beq_eq_false_iff_ne.mpr he, Bool.false_and]
      rfl
theorem s_canBe {r : List Nat} {ht : List (Nat × Nat)} (hp : scp p) (X : XS p c w) (hc : okc c) (H : XHt ht w) (hh : okh ht) (hr : okr 5 r) : sem (d + 5) 9 [.ref 15, .ref p, .int (nI (cx r))] w = some (some (.int (b2i (hatOk c ht r))), w) := by
  have e1 := s_knows (d := d + 2) (r := r) hp X hc hr
  unfold hatOk
  cases hk : r.all (fun s => decide (s < c 0 0)) with
  | false =>
    rw [hk] at e1
    rw [Bool.false_and]
    exact e_X1_canBe.trans (p_X1_canBe_0F_R hp e1 rfl)
  | true =>
    rw [hk] at e1
    rw [Bool.true_and]
    have hr2 : okr (c 0 0) r := ⟨hr.1, fun s hs => of_decide_eq_true (List.all_eq_true.mp hk s hs)⟩
    exact e_X1_canBe.trans ((p_X1_canBe_0T_L12 hp e1 (by decide)).trans (l_canBe hp X hc H hh hr2 ht.length 0 (by omega)))
theorem l_possible {ht : List (Nat × Nat)} (hp : scp p) (X : XS p c w) (hc : okc c) (H : XHt ht w) (hh : okh ht) : ∀ (m k : Nat), m + k = 156 → runs (T_X1_possible (sem (d + 5))) (4, [.ref 15, .ref p, .int (nI (foN (fun n x => hCnt c ht n (dx 5 x)) 0 k)), .int (nI k)], [], w) = some (some (.int (nI (foN (fun n x => hCnt c ht n (dx 5 x)) 0 156))), w) := by
  intro m
  induction m with
  | zero =>
    intro k hk
    have ek : k = 156 := by omega
    subst ek
    exact p_X1_possible_4T_R hp (by decide)
  | succ m ih =>
    intro k hk
    have h1 : ¬ (156 : Int32) ≤ nI k := nI_ge (a := k) (b := 156) (by omega) (by decide)
    have e1 := s_canBe (d := d) (r := dx 5 k) hp X hc H hh dx_ok
    rw [cx_dx5 (by omega)] at e1
    have e2 : foN (fun n x => hCnt c ht n (dx 5 x)) 0 (k + 1) = hCnt c ht (foN (fun n x => hCnt c ht n (dx 5 x)) 0 k) (dx 5 k) := rfl
    unfold hCnt at e2
    cases hk2 : hatOk c ht (dx 5 k) with
    | false =>
      rw [hk2] at e1
      rw [hk2, if_neg (by decide)] at e2
      refine (p_X1_possible_4FT_L4 hp h1 e1 rfl).trans ?_
      rw [nI_1, Int32.add_zero]
      have := ih (k + 1) (by omega)
      unfold hCnt at this ⊢
      rw [e2] at this
      exact this
    | true =>
      rw [hk2] at e1
      rw [hk2, if_pos rfl] at e2
      refine (p_X1_possible_4FF_L4 hp h1 e1 (by decide)).trans ?_
      rw [nI_1, nI_1]
      have := ih (k + 1) (by omega)
      unfold hCnt at this ⊢
      rw [e2] at this
      exact this
theorem s_possible {ht : List (Nat × Nat)} (hp : scp p) (X : XS p c w) (hc : okc c) (H : XHt ht w) (hh : okh ht) : sem (d + 6) 5 [.ref 15, .ref p] w = some (some (.int (nI (foN (fun n x => hCnt c ht n (dx 5 x)) 0 156))), w) :=
  e_X1_possible.trans ((p_X1_possible_0_L4 hp).trans (l_possible hp X hc H hh 156 0 (by omega)))
theorem hUnd_5 {ht : List (Nat × Nat)} {n : Nat} {r : List Nat} : hUnd c ht n (-5) r = -5 := by
  unfold hUnd
  by_cases h : hatOk c ht r = true
  · rw [if_pos h]
    by_cases h2 : (-5 : Int32) = -9 ∨ -5 = tpI (r.drop n)
    · rw [if_pos h2]
      rcases h2 with h2 | h2
      · exact absurd h2 (by decide)
      · exact h2.symm
    · rw [if_neg h2]
  · rw [if_neg h]
theorem foN_und5 {ht : List (Nat × Nat)} {n : Nat} : ∀ (m k : Nat), foN (fun s x => hUnd c ht n s (dx 5 x)) (-9) k = -5 → foN (fun s x => hUnd c ht n s (dx 5 x)) (-9) (k + m) = -5 := by
  intro m
  induction m with
  | zero => intro k h; exact h
  | succ m ih =>
    intro k h
    rw [show k + (m + 1) = (k + 1) + m by omega]
    refine ih (k + 1) ?_
    show hUnd c ht n (foN (fun s x => hUnd c ht n s (dx 5 x)) (-9) k) (dx 5 k) = -5
    rw [h]
    exact hUnd_5
theorem l_spellAt {ht : List (Nat × Nat)} {n : Nat} (hp : scp p) (X : XS p c w) (hc : okc c) (H : XHt ht w) (hh : okh ht) (hn : n < 2 ^ 31) : ∀ (m k : Nat) (v5 : Value), m + k = 156 → runs (T_X1_spellAt (sem (d + 5))) (6, [.ref 15, .ref p, .int (nI n), .int (foN (fun s x => hUnd c ht n s (dx 5 x)) (-9) k), .int (nI k), v5], [], w) = some (some (.int (foN (fun s x => hUnd c ht n s (dx 5 x)) (-9) 156)), w) := by
  intro m
  induction m with
  | zero =>
    intro k v5 hk
    have ek : k = 156 := by omega
    subst ek
    exact p_X1_spellAt_6T_R hp (by decide)
  | succ m ih =>
    intro k v5 hk
    have h1 : ¬ (156 : Int32) ≤ nI k := nI_ge (a := k) (b := 156) (by omega) (by decide)
    have e1 := s_canBe (d := d) (r := dx 5 k) hp X hc H hh dx_ok
    have e3 := s_fromAbove (d := d + 2) (n := n) (r := dx 5 k) (w := w) dx_ok hn
    rw [cx_dx5 (by omega)] at e1 e3
    have e2 : foN (fun s x => hUnd c ht n s (dx 5 x)) (-9) (k + 1) = hUnd c ht n (foN (fun s x => hUnd c ht n s (dx 5 x)) (-9) k) (dx 5 k) := rfl
    have nx := ih (k + 1) .null (by omega)
    rw [e2] at nx
    unfold hUnd at nx
    rw [show (fun s x => if hatOk c ht (dx 5 x) = true then (if s = -9 ∨ s = tpI ((dx 5 x).drop n) then tpI ((dx 5 x).drop n) else -5) else s) = (fun s x => hUnd c ht n s (dx 5 x)) from rfl] at nx
    cases hk2 : hatOk c ht (dx 5 k) with
    | false =>
      rw [hk2] at e1
      rw [hk2, if_neg (by decide)] at nx
      refine (p_X1_spellAt_6FT_L6 hp h1 e1 rfl).trans ?_
      rw [nI_1]
      exact nx
    | true =>
      rw [hk2] at e1
      rw [hk2, if_pos rfl] at nx
      by_cases a1 : foN (fun s x => hUnd c ht n s (dx 5 x)) (-9) k = -9
      · rw [if_pos (Or.inl a1)] at nx
        refine (p_X1_spellAt_6FFT_L6 hp h1 e1 (by decide) e3 a1).trans ?_
        rw [nI_1]
        exact nx
      · by_cases a2 : foN (fun s x => hUnd c ht n s (dx 5 x)) (-9) k = tpI ((dx 5 k).drop n)
        · rw [if_pos (Or.inr a2)] at nx
          refine (p_X1_spellAt_6FFFT_L6 hp h1 e1 (by decide) e3 a1 a2).trans ?_
          rw [nI_1]
          exact nx
        · have h5 : foN (fun s x => hUnd c ht n s (dx 5 x)) (-9) (k + 1) = -5 := by
            rw [e2]
            unfold hUnd
            rw [if_pos hk2, if_neg (fun h => h.elim a1 a2)]
          have h6 := foN_und5 m (k + 1) h5
          rw [show k + 1 + m = 156 by omega] at h6
          rw [h6]
          exact p_X1_spellAt_6FFFF_R hp h1 e1 (by decide) e3 a1 a2
theorem s_spellAt {ht : List (Nat × Nat)} {n : Nat} (hp : scp p) (X : XS p c w) (hc : okc c) (H : XHt ht w) (hh : okh ht) (hn : n < 2 ^ 31) : sem (d + 6) 6 [.ref 15, .ref p, .int (nI n)] w = some (some (.int (foN (fun s x => hUnd c ht n s (dx 5 x)) (-9) 156)), w) :=
  e_X1_spellAt.trans ((p_X1_spellAt_0_L6 hp).trans (l_spellAt hp X hc H hh hn 156 0 _ (by omega)))
theorem hAns_t {ht : List (Nat × Nat)} {l : Nat} {A r : List Nat} (h : hatOk c ht r = true) : hAns c ht l A r = ansN c r l :: A := if_pos h
theorem hAns_f {ht : List (Nat × Nat)} {l : Nat} {A r : List Nat} (h : hatOk c ht r = false) : hAns c ht l A r = A := if_neg (by rw [h]; decide)
theorem XHt.chg {ht : List (Nat × Nat)} {a : Nat} {g : Nat → Int32} (ha : a < 15 ∨ 18 ≤ a) (H : XHt ht w) : XHt ht (chg w a g) := by
  unfold XHt at H ⊢
  rw [chg_ne w g (b := 15) (by omega), chg_ne w g (b := 16) (by omega), chg_ne w g (b := 17) (by omega)]
  exact H
theorem ansN_le {r : List Nat} {l : Nat} (hc : okc c) (hr : okr (c 0 0) r) : ansN c r l ≤ 1024 := by
  unfold ansN
  have := wk_lt hc (r := r.drop l) (hr.drop _).2
  split <;> omega
theorem foN_len {ht : List (Nat × Nat)} {l : Nat} : ∀ k : Nat, (foN (fun A x => hAns c ht l A (dx 5 x)) [] k).length ≤ k := by
  intro k
  induction k with
  | zero => exact Nat.le_refl _
  | succ k ih =>
    show (hAns c ht l (foN (fun A x => hAns c ht l A (dx 5 x)) [] k) (dx 5 k)).length ≤ k + 1
    cases h : hatOk c ht (dx 5 k) with
    | true => rw [hAns_t h]; simp only [List.length_cons]; omega
    | false => rw [hAns_f h]; omega
theorem l_mostLeft {ht : List (Nat × Nat)} {l : Nat} (hp : scp p) (X : XS p c w) (hc : okc c) (H : XHt ht w) (hh : okh ht) (hl : l < 2 ^ 31) : ∀ (m k : Nat) (v5 : Value) (g : Nat → Int32), m + k = 156 → (∀ a : Nat, a ≤ 1024 → g a = nI ((foN (fun A x => hAns c ht l A (dx 5 x)) [] k).count a)) →
    ∃ g2, runs (T_X1_mostLeft (sem (d + 5))) (13, [.ref 15, .ref p, .int (nI l), .int (nI (mxm (foN (fun A x => hAns c ht l A (dx 5 x)) [] k))), .int (nI k), v5], [], chg w 18 g) = some (some (.int (nI (mxm (foN (fun A x => hAns c ht l A (dx 5 x)) [] 156)))), chg w 18 g2) := by
  intro m
  induction m with
  | zero =>
    intro k v5 g hk hg
    have ek : k = 156 := by omega
    subst ek
    exact ⟨g, p_X1_mostLeft_13T_R hp (by decide)⟩
  | succ m ih =>
    intro k v5 g hk hg
    have X2 : XS p c (chg w 18 g) := X.chg hp (Or.inl (by decide))
    have H2 : XHt ht (chg w 18 g) := H.chg (Or.inr (by decide))
    have h1 : ¬ (156 : Int32) ≤ nI k := nI_ge (a := k) (b := 156) (by omega) (by decide)
    have e1 := s_canBe (d := d) (r := dx 5 k) hp X2 hc H2 hh dx_ok
    have e2 : foN (fun A x => hAns c ht l A (dx 5 x)) [] (k + 1) = hAns c ht l (foN (fun A x => hAns c ht l A (dx 5 x)) [] k) (dx 5 k) := rfl
    have hlen := foN_len (c := c) (ht := ht) (l := l) k
    generalize hA : foN (fun A x => hAns c ht l A (dx 5 x)) [] k = A at *
    cases hk2 : hatOk c ht (dx 5 k) with
    | false =>
      rw [hk2] at e1
      rw [hAns_f hk2] at e2
      rw [cx_dx5 (by omega)] at e1
      obtain ⟨g2, h2⟩ := ih (k + 1) .null g (by omega) (by intro a ha; rw [e2]; exact hg a ha)
      refine ⟨g2, (p_X1_mostLeft_13FT_L13 hp h1 e1 rfl).trans ?_⟩
      rw [e2] at h2
      rw [nI_1]
      exact h2
    | true =>
      rw [hk2] at e1
      rw [hAns_t hk2] at e2
      have hr2 : okr (c 0 0) (dx 5 k) := by
        unfold hatOk at hk2
        rw [Bool.and_eq_true] at hk2
        exact ⟨dx_ok.1, fun s hs => of_decide_eq_true (List.all_eq_true.mp hk2.1 s hs)⟩
      have hle := ansN_le (l := l) hc hr2
      have e3 := s_answerOf (d := d + 1) (l := l) hp X2 hc hr2 hl
      rw [cx_dx5 (by omega)] at e1 e3
      generalize ansN c (dx 5 k) l = a at *
      have e4 := s_at (d := d + 4) (a := 18) (k := a) (w := chg w 18 g) rfl (by show a < 1025; omega)
      rw [chg_at, hg a hle] at e4
      have e5 := s_put (d := d + 4) (a := 18) (k := a) (x := nI (A.count a) + 1) (w := chg w 18 g) rfl (by show a < 1025; omega)
      rw [updI_chg, chg_at, chg_chg, nI_1] at e5
      have e6 := s_at (d := d + 4) (a := 18) (k := a) (w := chg w 18 (upd g a (nI (A.count a + 1)))) rfl (by show a < 1025; omega)
      rw [chg_at, upd_at] at e6
      obtain ⟨g2, h2⟩ := ih (k + 1) .null (upd g a (nI (A.count a + 1))) (by omega) (by
        intro b hb
        rw [e2]
        by_cases hab : b = a
        · subst hab
          rw [upd_at, List.count_cons_self]
        · rw [upd_ne _ _ hab, List.count_cons_of_ne (fun h => hab h.symm)]
          exact hg b hb)
      refine ⟨g2, (p_X1_mostLeft_13FF_L13 hp h1 e1 (by decide) e3 e4 (by rw [nI_1]; exact e5) e6).trans ?_⟩
      have e7 : (if nI (mxm A) < nI (A.count a + 1) then nI (A.count a + 1) else nI (mxm A)) = nI (mxm (a :: A)) := by
        have k1 := mxm_le A
        have k2 := List.count_le_length (a := a) (l := A)
        show _ = nI (max (mxm A) (A.count a + 1))
        by_cases hm : mxm A < A.count a + 1
        · rw [if_pos (nI_lt hm (by omega)), Nat.max_eq_right (by omega)]
        · rw [if_neg (nI_nlt (by omega) (by omega)), Nat.max_eq_left (by omega)]
      rw [e7, nI_1]
      rw [e2] at h2
      exact h2
def lftN (c : Nat → Nat → Nat) (ht : List (Nat × Nat)) (l : Nat) : Nat := mxm (foN (fun A x => hAns c ht l A (dx 5 x)) [] 156)
theorem s_mostLeft {ht : List (Nat × Nat)} {l : Nat} (hp : scp p) (X : XS p c w) (hc : okc c) (H : XHt ht w) (hh : okh ht) (hl : l < 2 ^ 31) : ∃ g2, sem (d + 6) 8 [.ref 15, .ref p, .int (nI l)] w = some (some (.int (nI (lftN c ht l))), chg w 18 g2) := by
  have e1 := s_fill (d := d + 4) (a := 18) (v := 0) (w := w) rfl
  rw [filW_chg] at e1
  obtain ⟨g2, h2⟩ := l_mostLeft (d := d) hp X hc H hh hl 156 0 .null (fun k => if k < lenOf 18 then 0 else w.1 18 k) (by omega) (by
    intro a ha
    exact if_pos (by show a < 1025; omega))
  exact ⟨g2, e_X1_mostLeft.trans ((p_X1_mostLeft_0_L13 hp e1).trans h2)⟩
/-- the best to lift, and how many rows it leaves -/
def bst (f : Nat → Nat) : Nat → Int32 × Nat
  | 0 => (-9, 157)
  | n + 1 => if 0 < f n ∧ f n < (bst f n).2 then (nI n, f n) else bst f n
theorem lftN_le {ht : List (Nat × Nat)} {l : Nat} : lftN c ht l ≤ 156 := Nat.le_trans (mxm_le _) (foN_len 156)
theorem bst_le {f : Nat → Nat} : ∀ n : Nat, (bst f n).2 ≤ 157 := by
  intro n
  induction n with
  | zero => exact Nat.le_refl _
  | succ n ih =>
    unfold bst
    split
    · dsimp only; omega
    · exact ih
theorem l_bestToLift {ht : List (Nat × Nat)} (hp : scp p) (X : XS p c w) (hc : okc c) (H : XHt ht w) (hh : okh ht) : ∀ (m k : Nat) (v5 : Value) (g : Nat → Int32), m + k = 4 →
    ∃ g2, runs (T_X1_bestToLift (sem (d + 6))) (10, [.ref 15, .ref p, .int (bst (lftN c ht) k).1, .int (nI (bst (lftN c ht) k).2), .int (nI k), v5], [], chg w 18 g) = some (some (.int (bst (lftN c ht) 4).1), chg w 18 g2) := by
  intro m
  induction m with
  | zero =>
    intro k v5 g hk
    have ek : k = 4 := by omega
    subst ek
    exact ⟨g, p_X1_bestToLift_10T_R hp (by decide)⟩
  | succ m ih =>
    intro k v5 g hk
    have X2 : XS p c (chg w 18 g) := X.chg hp (Or.inl (by decide))
    have H2 : XHt ht (chg w 18 g) := H.chg (Or.inr (by decide))
    have h1 : ¬ (3 : Int32) < nI k := nI_nlt (a := 3) (b := k) (by omega) (by decide)
    obtain ⟨g2, e1⟩ := s_mostLeft (d := d) (l := k) hp X2 hc H2 hh (by omega)
    rw [chg_chg] at e1
    obtain ⟨g3, e2⟩ := ih (k + 1) .null g2 (by omega)
    have e3 : bst (lftN c ht) (k + 1) = if 0 < lftN c ht k ∧ lftN c ht k < (bst (lftN c ht) k).2 then (nI k, lftN c ht k) else bst (lftN c ht) k := rfl
    have k1 := lftN_le (c := c) (ht := ht) (l := k)
    have k2 := bst_le (f := lftN c ht) k
    rw [e3] at e2
    by_cases a1 : 0 < lftN c ht k
    · by_cases a2 : lftN c ht k < (bst (lftN c ht) k).2
      · rw [if_pos ⟨a1, a2⟩] at e2
        refine ⟨g3, (p_X1_bestToLift_10FFF_L10 hp h1 e1 (nI_nle a1 (by omega)) (nI_ge a2 (by omega))).trans ?_⟩
        rw [nI_1]
        exact e2
      · rw [if_neg (fun h => a2 h.2)] at e2
        refine ⟨g3, (p_X1_bestToLift_10FFT_L10 hp h1 e1 (nI_nle a1 (by omega)) (nI_le (by omega) (by omega))).trans ?_⟩
        rw [nI_1]
        exact e2
    · rw [if_neg (fun h => a1 h.1)] at e2
      refine ⟨g3, (p_X1_bestToLift_10FT_L10 hp h1 e1 ((nI_le0 (by omega)).mpr (by omega))).trans ?_⟩
      rw [nI_1]
      exact e2
theorem s_bestToLift {ht : List (Nat × Nat)} (hp : scp p) (X : XS p c w) (hc : okc c) (H : XHt ht w) (hh : okh ht) : ∃ g2, sem (d + 7) 7 [.ref 15, .ref p] w = some (some (.int (bst (lftN c ht) 4).1), chg w 18 g2) := by
  have e : chg w 18 (w.1 18) = w := by
    unfold chg
    have : (fun q => if q = 18 then w.1 18 else w.1 q) = w.1 := by
      funext q
      by_cases h : q = 18
      · rw [if_pos h, h]
      · rw [if_neg h]
    rw [this]
  obtain ⟨g2, h⟩ := l_bestToLift (d := d) hp X hc H hh 4 0 .null (w.1 18) (by omega)
  rw [e] at h
  exact ⟨g2, e_X1_bestToLift.trans ((p_X1_bestToLift_0_L10 hp).trans h)⟩
end XHAT

/-! the shelf -/
/-- nothing but some places changes -/
def frm (lo hi : Nat) (w w2 : Wd) : Prop := ∀ q : Nat, q < lo ∨ hi ≤ q → w2.1 q = w.1 q ∧ w2.2 q = w.2 q
theorem frm.refl (lo hi : Nat) (w : Wd) : frm lo hi w w := fun _ _ => ⟨rfl, rfl⟩
theorem frm.trans {lo hi : Nat} {w w2 w3 : Wd} (h : frm lo hi w w2) (h2 : frm lo hi w2 w3) : frm lo hi w w3 :=
  fun q hq => ⟨(h2 q hq).1.trans (h q hq).1, (h2 q hq).2.trans (h q hq).2⟩
theorem frm.wide {lo hi lo2 hi2 : Nat} {w w2 : Wd} (h : frm lo hi w w2) (h1 : lo2 ≤ lo) (h2 : hi ≤ hi2) : frm lo2 hi2 w w2 :=
  fun q hq => h q (by omega)
theorem frm.upI {lo hi p k : Nat} {x : Int32} (w : Wd) (h : lo ≤ p) (h2 : p < hi) : frm lo hi w (updI w p k x) :=
  fun q hq => ⟨if_neg (by omega), rfl⟩
theorem frm.upL {lo hi p k : Nat} {x : Int64} (w : Wd) (h : lo ≤ p) (h2 : p < hi) : frm lo hi w (updL w p k x) :=
  fun q hq => ⟨rfl, if_neg (by omega)⟩
theorem frm.chg {lo hi p : Nat} {g : Nat → Int32} (w : Wd) (h : lo ≤ p) (h2 : p < hi) : frm lo hi w (chg w p g) :=
  fun q hq => ⟨if_neg (by omega), rfl⟩
theorem rdI (w : Wd) (p k q j : Nat) (x : Int32) : (updI w p k x).1 q j = if q = p then (if j = k then x else w.1 q j) else w.1 q j := by
  unfold updI
  dsimp only
  by_cases h : q = p
  · rw [if_pos h, if_pos h]
    unfold upd
    by_cases h2 : j = k
    · rw [if_pos h2, if_pos h2]
    · rw [if_neg h2, if_neg h2, h]
  · rw [if_neg h, if_neg h]
theorem rd_n {w : Wd} {p k q j : Nat} {x : Int32} (h : q ≠ p) : (updI w p k x).1 q j = w.1 q j := by rw [rdI, if_neg h]
theorem rd_k {w : Wd} {p k j : Nat} {x : Int32} (h : j ≠ k) : (updI w p k x).1 p j = w.1 p j := by rw [rdI, if_pos rfl, if_neg h]
theorem rd_e {w : Wd} {p k : Nat} {x : Int32} : (updI w p k x).1 p k = x := by rw [rdI, if_pos rfl, if_pos rfl]
def upR (rs : Nat → List Nat) (t : Nat) (r : List Nat) : Nat → List Nat := fun k => if k = t then r else rs k
/-- the words that can be undone, the newest first -/
def XUn (us : List (Nat × List Nat × Nat)) (w : Wd) : Prop :=
  w.1 4 5 = nI us.length ∧ ∃ nx, nx < 12 ∧ w.1 4 6 = nI nx ∧ ∀ (i : Nat) (h : i < us.length), w.1 6 ((nx + 11 - i) % 12) = nI (us[i]).1 ∧ w.1 7 ((nx + 11 - i) % 12) = nI (cx (us[i]).2.1) ∧ w.1 8 ((nx + 11 - i) % 12) = nI (us[i]).2.2
def XIm (im : Nat → Option ((Nat → List Nat) × Nat)) (w : Wd) : Prop :=
  ∃ iv, iv < 4 ∧ w.1 4 9 = nI iv ∧ ∀ j : Nat, j < 2 → (im j = none → iv.testBit j = false) ∧ ∀ q, im j = some q → iv.testBit j = true ∧ (∀ t : Nat, t < 4 → w.1 9 (j * 4 + t) = nI (cx (q.1 t))) ∧ w.1 10 j = nI q.2
def XRo (rs : Nat → List Nat) (sp : Nat) (w : Wd) : Prop := (∀ t : Nat, t < 4 → w.1 5 t = nI (cx (rs t))) ∧ w.1 4 1 = nI sp
def XSh (rs : Nat → List Nat) (sp : Nat) (us : List (Nat × List Nat × Nat)) (im : Nat → Option ((Nat → List Nat) × Nat)) (w : Wd) : Prop :=
  XRo rs sp w ∧ XUn us w ∧ XIm im w
theorem XSh.of {rs : Nat → List Nat} {sp : Nat} {us : List (Nat × List Nat × Nat)} {im : Nat → Option ((Nat → List Nat) × Nat)} {w w2 : Wd} (h : ∀ q, 4 ≤ q → q < 11 → w2.1 q = w.1 q) (X : XSh rs sp us im w) : XSh rs sp us im w2 := by
  unfold XSh XRo XUn XIm at *
  rw [h 4 (by decide) (by decide), h 5 (by decide) (by decide), h 6 (by decide) (by decide), h 7 (by decide) (by decide), h 8 (by decide) (by decide), h 9 (by decide) (by decide), h 10 (by decide) (by decide)]
  exact X
def oks (S : Nat) (rs : Nat → List Nat) (us : List (Nat × List Nat × Nat)) (im : Nat → Option ((Nat → List Nat) × Nat)) : Prop :=
  (∀ t : Nat, t < 4 → okr S (rs t)) ∧ (us.length ≤ 12 ∧ ∀ u ∈ us, u.1 < 4 ∧ okr S u.2.1) ∧ ∀ (j : Nat) (q : (Nat → List Nat) × Nat), im j = some q → ∀ t : Nat, t < 4 → okr S (q.1 t)
section XSHE
variable {d : Nat} {rs : Nat → List Nat} {sp : Nat} {us : List (Nat × List Nat × Nat)} {im : Nat → Option ((Nat → List Nat) × Nat)} {w : Wd}
theorem s_rowOf {t : Nat} (X : XRo rs sp w) (ht : t < 4) : sem (d + 2) 92 [.ref 4, .int (nI t)] w = some (some (.int (nI (cx (rs t)))), w) := by
  have e := s_at (d := d) (a := 5) (k := t) (w := w) rfl (by show t < 4; exact ht)
  rw [X.1 t ht] at e
  exact e_X7_rowOf.trans (p_X7_rowOf_0_R e)
theorem s_spent (X : XRo rs sp w) : sem (d + 1) 93 [.ref 4] w = some (some (.int (nI sp)), w) := by
  rw [← X.2]
  exact e_X7_spent.trans p_X7_spent_0_R
theorem s_known (X : XUn us w) : sem (d + 1) 94 [.ref 4] w = some (some (.int (nI us.length)), w) := by
  rw [← X.1]
  exact e_X7_known.trans p_X7_known_0_R
theorem i_mod12 {n : Nat} (h : n < 2 ^ 31) : nI n - nI n / 12 * 12 = nI (n % 12) := pk_rem (a := n) (d := 12) h (by decide) (by decide)
theorem s_change {t cost : Nat} {r : List Nat} (X : XSh rs sp us im w) (hu : us.length ≤ 12) (ht : t < 4) :
    ∃ w2, sem (d + 3) 95 [.ref 4, .int (nI t), .int (nI (cx r)), .int (nI cost)] w = some (none, w2) ∧ frm 4 9 w w2 ∧ XSh (upR rs t r) (sp + cost) (((t, rs t, sp) :: us).take 12) im w2 := by
  obtain ⟨⟨X1, X2⟩, ⟨X3, nx, X4, X5, X6⟩, ⟨iv, X7, X8, X9⟩⟩ := X
  have a1 := s_put (d := d + 1) (a := 6) (k := nx) (x := nI t) (w := w) rfl (by show nx < 12; exact X4)
  have a2 := s_rowOf (d := d) (rs := rs) (sp := sp) (t := t) (w := updI w 6 nx (nI t)) ⟨X1, X2⟩ ht
  have a3 := s_put (d := d + 1) (a := 7) (k := nx) (x := nI (cx (rs t))) (w := updI w 6 nx (nI t)) rfl (by show nx < 12; exact X4)
  have a4 := s_put (d := d + 1) (a := 8) (k := nx) (x := nI sp) (w := updI (updI w 6 nx (nI t)) 7 nx (nI (cx (rs t)))) rfl (by show nx < 12; exact X4)
  have a5 := fun w => s_put (d := d + 1) (a := 5) (k := t) (x := nI (cx r)) (w := w) rfl (by show t < 4; exact ht)
  have b1 : nI nx + 1 - (nI nx + 1) / 12 * 12 = nI ((nx + 1) % 12) := by rw [nI_1, i_mod12 (by omega)]
  have b2 : (if (12 : Int32) < nI us.length + 1 then 12 else nI us.length + 1) = nI (min (us.length + 1) 12) := by
    rw [nI_1]
    by_cases h : 12 < us.length + 1
    · have h12 : (12 : Int32) < nI (us.length + 1) := nI_lt (a := 12) h (by omega)
      rw [if_pos h12, Nat.min_eq_right (by omega)]
      rfl
    · have h12 : ¬ (12 : Int32) < nI (us.length + 1) := nI_nlt (a := 12) (b := us.length + 1) (by omega) (by decide)
      rw [if_neg h12, Nat.min_eq_left (by omega)]
  refine ⟨_, e_X7_change.trans (p_X7_change_0_R (by rw [X5]; exact a1) a2 (by rw [rd_n (by decide), X5]; exact a3) (by rw [rd_n (by decide), rd_n (by decide), rd_n (by decide), rd_n (by decide), X5, X2]; exact a4) (a5 _)), ?_, ⟨⟨?_, ?_⟩, ⟨?_, (nx + 1) % 12, Nat.mod_lt _ (by decide), ?_, ?_⟩, ⟨iv, X7, ?_, ?_⟩⟩⟩
  · refine ((((((((frm.upI w ?_ ?_).trans (frm.upI _ ?_ ?_)).trans (frm.upI _ ?_ ?_)).trans (frm.upI _ ?_ ?_)).trans (frm.upI _ ?_ ?_)).trans (frm.upI _ ?_ ?_)).trans (frm.upI _ ?_ ?_))) <;> decide
  · intro k hk
    rw [rd_n (by decide)]
    unfold upR
    by_cases h : k = t
    · subst h
      rw [rd_e, if_pos rfl]
    · rw [rd_k h, if_neg h, rd_n (by decide), rd_n (by decide), rd_n (by decide), rd_n (by decide), rd_n (by decide)]
      exact X1 k hk
  · rw [rd_e, rd_n (by decide), rd_k (by decide), rd_k (by decide), rd_n (by decide), rd_n (by decide), rd_n (by decide), X2, nI_add]
  · rw [rd_k (by decide), rd_n (by decide), rd_e, rd_n (by decide), rd_n (by decide), rd_n (by decide), X3, b2, List.length_take, Nat.min_comm]
    rfl
  · rw [rd_k (by decide), rd_n (by decide), rd_k (by decide), rd_e, rd_n (by decide), rd_n (by decide), rd_n (by decide), X5, b1]
  · intro i hi
    rw [List.length_take] at hi
    simp only [List.length_cons] at hi
    have f6 : ∀ j : Nat, (updI (updI (updI (updI (updI (updI (updI w 6 nx (nI t)) 7 nx (nI (cx (rs t)))) 8 nx (nI sp)) 4 6 (nI ((nx + 1) % 12))) 4 5 (nI (min (us.length + 1) 12))) 5 t (nI (cx r))) 4 1 (nI (sp + cost))).1 6 j = (updI w 6 nx (nI t)).1 6 j := fun j => by
      rw [rd_n (by decide), rd_n (by decide), rd_n (by decide), rd_n (by decide), rd_n (by decide), rd_n (by decide)]
    rw [List.getElem_take]
    cases i with
    | zero =>
      have e : ((nx + 1) % 12 + 11 - 0) % 12 = nx := by omega
      rw [e]
      refine ⟨?_, ?_, ?_⟩
      · rw [rd_n (by decide), rd_n (by decide), rd_n (by decide), rd_n (by decide), rd_n (by decide), rd_n (by decide), rd_e]; rfl
      · rw [rd_n (by decide), rd_n (by decide), rd_n (by decide), rd_n (by decide), rd_n (by decide), rd_e]; rfl
      · rw [rd_n (by decide), rd_n (by decide), rd_n (by decide), rd_n (by decide), rd_e]; rfl
    | succ i =>
      have e : ((nx + 1) % 12 + 11 - (i + 1)) % 12 = (nx + 11 - i) % 12 := by omega
      have ne : (nx + 11 - i) % 12 ≠ nx := by omega
      have X66 := X6 i (by omega)
      rw [e]
      refine ⟨?_, ?_, ?_⟩
      · rw [rd_n (by decide), rd_n (by decide), rd_n (by decide), rd_n (by decide), rd_n (by decide), rd_n (by decide), rd_k ne]; exact X66.1
      · rw [rd_n (by decide), rd_n (by decide), rd_n (by decide), rd_n (by decide), rd_n (by decide), rd_k ne, rd_n (by decide)]; exact X66.2.1
      · rw [rd_n (by decide), rd_n (by decide), rd_n (by decide), rd_n (by decide), rd_k ne, rd_n (by decide), rd_n (by decide)]; exact X66.2.2
  · rw [rd_k (by decide), rd_n (by decide), rd_k (by decide), rd_k (by decide), rd_n (by decide), rd_n (by decide), rd_n (by decide), X8]
  · intro j hj
    refine ⟨(X9 j hj).1, fun q hq => ?_⟩
    obtain ⟨y1, y2, y3⟩ := (X9 j hj).2 q hq
    refine ⟨y1, fun k hk => ?_, ?_⟩
    · rw [rd_n (by decide), rd_n (by decide), rd_n (by decide), rd_n (by decide), rd_n (by decide), rd_n (by decide), rd_n (by decide)]
      exact y2 k hk
    · rw [rd_n (by decide), rd_n (by decide), rd_n (by decide), rd_n (by decide), rd_n (by decide), rd_n (by decide), rd_n (by decide)]
      exact y3
theorem s_takeBack0 (X : XUn [] w) : sem (d + 1) 96 [.ref 4] w = some (some (.int 0), w) :=
  e_X7_takeBack.trans (p_X7_takeBack_0F_R X.1)
theorem s_takeBack {u : Nat × List Nat × Nat} (X : XSh rs sp (u :: us) im w) (hu : us.length < 12) (h4 : u.1 < 4) :
    ∃ w2, sem (d + 2) 96 [.ref 4] w = some (some (.int 1), w2) ∧ frm 4 6 w w2 ∧ XSh (upR rs u.1 u.2.1) u.2.2 us im w2 := by
  obtain ⟨⟨X1, X2⟩, ⟨X3, nx, X4, X5, X6⟩, ⟨iv, X7, X8, X9⟩⟩ := X
  have X60 := X6 0 (Nat.succ_pos _)
  have e : (nx + 11 - 0) % 12 = (nx + 11) % 12 := rfl
  rw [e] at X60
  obtain ⟨y1, y2, y3⟩ := X60
  have hp : (nx + 11) % 12 < 12 := Nat.mod_lt _ (by decide)
  have b1 : nI nx + 12 - 1 - (nI nx + 12 - 1) / 12 * 12 = nI ((nx + 11) % 12) := by
    have k1 : nI nx + 12 - 1 = nI (nx + 11) := by
      have k2 : nI nx + 12 = nI (nx + 12) := nI_add nx 12
      rw [k2]
      exact nI_pred (nx + 11)
    rw [k1, i_mod12 (by omega)]
  have b2 : nI (u :: us).length - 1 = nI us.length := nI_pred _
  have X3' : ¬ w.1 4 5 = 0 := by
    rw [X3]
    intro h
    have := (nI_eq (a := (u :: us).length) (b := 0) (by simp; omega) (by decide)).mp h
    simp at this
  have a1 := fun w => s_at (d := d) (a := 6) (k := (nx + 11) % 12) (w := w) rfl (by show _ < 12; exact hp)
  have a2 := fun w => s_at (d := d) (a := 7) (k := (nx + 11) % 12) (w := w) rfl (by show _ < 12; exact hp)
  have a3 := fun w => s_at (d := d) (a := 8) (k := (nx + 11) % 12) (w := w) rfl (by show _ < 12; exact hp)
  have a4 := fun w => s_put (d := d) (a := 5) (k := u.1) (x := nI (cx u.2.1)) (w := w) rfl (by show _ < 4; exact h4)
  have c1 := a1 (updI (updI w 4 5 (nI us.length)) 4 6 (nI ((nx + 11) % 12)))
  rw [rd_n (by decide), rd_n (by decide), y1] at c1
  have c2 := a2 (updI (updI w 4 5 (nI us.length)) 4 6 (nI ((nx + 11) % 12)))
  rw [rd_n (by decide), rd_n (by decide), y2] at c2
  have c3 := a3 (updI (updI (updI w 4 5 (nI us.length)) 4 6 (nI ((nx + 11) % 12))) 5 u.1 (nI (cx u.2.1)))
  rw [rd_n (by decide), rd_n (by decide), rd_n (by decide), y3] at c3
  refine ⟨_, e_X7_takeBack.trans (p_X7_takeBack_0T_R X3' (by rw [X5, X3, b1, b2]; exact c1) (by rw [rd_e]; exact c2) (a4 _) (by rw [rd_n (by decide), rd_e]; exact c3)), ?_, ⟨⟨?_, ?_⟩, ⟨?_, (nx + 11) % 12, hp, ?_, ?_⟩, ⟨iv, X7, ?_, ?_⟩⟩⟩
  · refine (((frm.upI w ?_ ?_).trans (frm.upI _ ?_ ?_)).trans (frm.upI _ ?_ ?_)).trans (frm.upI _ ?_ ?_) <;> decide
  · intro k hk
    rw [rd_n (by decide)]
    unfold upR
    by_cases h : k = u.1
    · rw [h, rd_e, if_pos rfl]
    · rw [rd_k h, if_neg h, rd_n (by decide), rd_n (by decide)]
      exact X1 k hk
  · rw [rd_e]; rfl
  · rw [rd_k (by decide), rd_n (by decide), rd_k (by decide), rd_e]
  · rw [rd_k (by decide), rd_n (by decide), rd_e]
  · intro i hi
    have X66 := X6 (i + 1) (by simp only [List.length_cons]; omega)
    have e2 : (nx + 11 - (i + 1)) % 12 = ((nx + 11) % 12 + 11 - i) % 12 := by omega
    rw [e2] at X66
    refine ⟨?_, ?_, ?_⟩
    · rw [rd_n (by decide), rd_n (by decide), rd_n (by decide), rd_n (by decide)]; exact X66.1
    · rw [rd_n (by decide), rd_n (by decide), rd_n (by decide), rd_n (by decide)]; exact X66.2.1
    · rw [rd_n (by decide), rd_n (by decide), rd_n (by decide), rd_n (by decide)]; exact X66.2.2
  · rw [rd_k (by decide), rd_n (by decide), rd_k (by decide), rd_k (by decide), X8]
  · intro j hj
    refine ⟨(X9 j hj).1, fun q hq => ?_⟩
    obtain ⟨z1, z2, z3⟩ := (X9 j hj).2 q hq
    refine ⟨z1, fun k hk => ?_, ?_⟩
    · rw [rd_n (by decide), rd_n (by decide), rd_n (by decide), rd_n (by decide)]
      exact z2 k hk
    · rw [rd_n (by decide), rd_n (by decide), rd_n (by decide), rd_n (by decide)]
      exact z3
/-- the things' layers, counted -/
def humN (h : Nat) (rs : Nat → List Nat) : Nat → Nat
  | 0 => 0
  | n + 1 => if h ≤ (rs n).length then humN h rs n ||| 2 ^ n else humN h rs n
def layN (rs : Nat → List Nat) : Nat → Nat
  | 0 => 0
  | n + 1 => layN rs n + (rs n).length
def witN (s : Nat) (rs : Nat → List Nat) : Nat → Nat
  | 0 => 0
  | n + 1 => witN s rs n + (rs n).count s
theorem l_layers (X : XRo rs sp w) (hr : ∀ t : Nat, t < 4 → okr 5 (rs t)) : ∀ (m k : Nat), m + k = 4 → runs (T_X7_layers (sem (d + 2))) (4, [.ref 4, .int (nI (layN rs k)), .int (nI k)], [], w) = some (some (.int (nI (layN rs 4))), w) := by
  intro m
  induction m with
  | zero =>
    intro k hk
    have ek : k = 4 := by omega
    subst ek
    exact p_X7_layers_4T_R (by decide)
  | succ m ih =>
    intro k hk
    have h1 : ¬ (4 : Int32) ≤ nI k := nI_ge (a := k) (b := 4) (by omega) (by decide)
    refine (p_X7_layers_4F_L4 h1 (s_rowOf X (by omega)) (s_depth (hr k (by omega)))).trans ?_
    rw [nI_1, nI_add]
    exact ih (k + 1) (by omega)
theorem s_layers (X : XRo rs sp w) (hr : ∀ t : Nat, t < 4 → okr 5 (rs t)) : sem (d + 3) 98 [.ref 4] w = some (some (.int (nI (layN rs 4))), w) :=
  e_X7_layers.trans (p_X7_layers_0_L4.trans (l_layers X hr 4 0 (by omega)))
theorem s_things {p : Nat} {c : Nat → Nat → Nat} (hp : scp p) (X : XS p c w) : sem (d + 1) 54 [.ref p] w = some (some (.int (nI (c 0 1))), w) := by
  rw [← X.2.1]
  exact e_X5_things.trans (p_X5_things_0_R hp)
theorem l_humming {p : Nat} {c : Nat → Nat → Nat} (hp : scp p) (X : XS p c w) (hc : okc c) (R : XRo rs sp w) (hr : ∀ t : Nat, t < 4 → okr 5 (rs t)) : ∀ (m k : Nat), m + k = c 0 1 → runs (T_X7_humming (sem (d + 3))) (4, [.ref 4, .ref p, .int (nI (humN (c 0 5) rs k)), .int (nI k)], [], w) = some (some (.int (nI (humN (c 0 5) rs (c 0 1)))), w) := by
  have h4 := hc.2.1
  intro m
  induction m with
  | zero =>
    intro k hk
    have ek : k = c 0 1 := by omega
    rw [ek]
    exact p_X7_humming_4T_R hp (s_things hp X) (nI_le (Nat.le_refl _) (by omega))
  | succ m ih =>
    intro k hk
    have h1 : ¬ nI (c 0 1) ≤ nI k := nI_ge (by omega) (by omega)
    have e1 := s_isHumming (d := d) hp X hc (hr k (by omega))
    have e2 : humN (c 0 5) rs (k + 1) = if c 0 5 ≤ (rs k).length then humN (c 0 5) rs k ||| 2 ^ k else humN (c 0 5) rs k := rfl
    by_cases h : c 0 5 ≤ (rs k).length
    · rw [if_pos h] at e1 e2
      refine (p_X7_humming_4FF_L4 hp (s_things hp X) h1 (s_rowOf R (by omega)) e1 (by decide)).trans ?_
      rw [nI_1, i_pow (by omega), i_or, ← e2]
      exact ih (k + 1) (by omega)
    · rw [if_neg h] at e1 e2
      refine (p_X7_humming_4FT_L4 hp (s_things hp X) h1 (s_rowOf R (by omega)) e1 rfl).trans ?_
      rw [nI_1, ← e2]
      exact ih (k + 1) (by omega)
theorem s_humming {p : Nat} {c : Nat → Nat → Nat} (hp : scp p) (X : XS p c w) (hc : okc c) (R : XRo rs sp w) (hr : ∀ t : Nat, t < 4 → okr 5 (rs t)) : sem (d + 4) 97 [.ref 4, .ref p] w = some (some (.int (nI (humN (c 0 5) rs (c 0 1)))), w) :=
  e_X7_humming.trans ((p_X7_humming_0_L4 hp).trans (l_humming hp X hc R hr (c 0 1) 0 (by omega)))
theorem tpI_eq {r : List Nat} {s : Nat} (hr : ∀ z ∈ r, z < 5) (hs : s < 5) : tpI r = nI s ↔ r.head? = some s := by
  cases r with
  | nil =>
    constructor
    · intro h
      exfalso
      have h1 : (-5 : Int32) = nI s := h
      have h2 := nI_pos (n := s) (by omega)
      rw [← h1] at h2
      exact h2 (by decide)
    · intro h; exact absurd h (by simp)
  | cons a r =>
    have := hr a List.mem_cons_self
    show nI a = nI s ↔ some a = some s
    rw [nI_eq (by omega) (by omega), Option.some.injEq]
theorem l_layersWith2 {s t : Nat} (X : XRo rs sp w) (hr : okr 5 (rs t)) (ht : t < 4) (hs : s < 5) : ∀ (m k n : Nat), m + k = 5 → runs (T_X7_layersWith (sem (d + 3))) (12, [.ref 4, .int (nI s), .int (nI n), .int (nI t), .int (nI k)], [], w) = runs (T_X7_layersWith (sem (d + 3))) (4, [.ref 4, .int (nI s), .int (nI (n + ((rs t).drop k).count s)), .int (nI (t + 1)), .null], [], w) := by
  intro m
  induction m with
  | zero =>
    intro k n hk
    have ek : k = 5 := by omega
    subst ek
    have e : (rs t).drop 5 = [] := List.drop_eq_nil_of_le hr.1
    rw [e]
    refine (p_X7_layersWith_12T_L4 (by decide)).trans ?_
    rw [nI_1]
    rfl
  | succ m ih =>
    intro k n hk
    have h1 : ¬ (5 : Int32) ≤ nI k := nI_ge (a := k) (b := 5) (by omega) (by decide)
    have e1 := s_fromAbove (d := d) (n := k) (w := w) hr (by omega)
    have e0 := s_rowOf (d := d + 1) X ht
    have e3 := tpI_eq (s := s) (hr.drop k).2 hs
    have nx := fun n => ih (k + 1) n (by omega)
    cases hd : (rs t).drop k with
    | nil =>
      have e4 : (rs t).drop (k + 1) = [] := by rw [← List.drop_drop, hd]; rfl
      rw [hd] at e3 e1
      refine (p_X7_layersWith_12FT_L12 h1 e0 e1 (fun h => absurd (e3.mp h) (by simp))).trans ?_
      rw [nI_1, Int32.add_zero]
      have := nx n
      rw [e4] at this
      exact this
    | cons a q =>
      have e4 : (rs t).drop (k + 1) = q := by rw [← List.drop_drop, hd]; rfl
      rw [hd] at e3 e1
      by_cases ha : a = s
      · refine (p_X7_layersWith_12FF_L12 h1 e0 e1 (e3.mpr (by rw [ha]; rfl))).trans ?_
        rw [nI_1, nI_1]
        have := nx (n + 1)
        rw [e4] at this
        rw [ha, List.count_cons_self, show n + (q.count s + 1) = n + 1 + q.count s by omega]
        exact this
      · refine (p_X7_layersWith_12FT_L12 h1 e0 e1 (fun h => ha (Option.some.inj (e3.mp h)))).trans ?_
        rw [nI_1, Int32.add_zero]
        have := nx n
        rw [e4] at this
        rw [List.count_cons_of_ne ha]
        exact this
theorem l_layersWith1 {s : Nat} (X : XRo rs sp w) (hr : ∀ t : Nat, t < 4 → okr 5 (rs t)) (hs : s < 5) : ∀ (m k : Nat) (v4 : Value), m + k = 4 → runs (T_X7_layersWith (sem (d + 3))) (4, [.ref 4, .int (nI s), .int (nI (witN s rs k)), .int (nI k), v4], [], w) = some (some (.int (nI (witN s rs 4))), w) := by
  intro m
  induction m with
  | zero =>
    intro k v4 hk
    have ek : k = 4 := by omega
    subst ek
    exact p_X7_layersWith_4T_R (by decide)
  | succ m ih =>
    intro k v4 hk
    have h1 : ¬ (4 : Int32) ≤ nI k := nI_ge (a := k) (b := 4) (by omega) (by decide)
    refine (p_X7_layersWith_4F_L12 h1).trans ?_
    refine (l_layersWith2 X (hr k (by omega)) (by omega) hs 5 0 _ (by omega)).trans ?_
    exact ih (k + 1) .null (by omega)
theorem s_layersWith {s : Nat} (X : XRo rs sp w) (hr : ∀ t : Nat, t < 4 → okr 5 (rs t)) (hs : s < 5) : sem (d + 4) 99 [.ref 4, .int (nI s)] w = some (some (.int (nI (witN s rs 4))), w) :=
  e_X7_layersWith.trans (p_X7_layersWith_0_L4.trans (l_layersWith1 X hr hs 4 0 _ (by omega)))
end XSHE

/-! the micro machine: a fixed world of places, instructions as functions -/
abbrev Wd : Type := (Nat → Nat → Int32) × (Nat → Nat → Int64)
abbrev Mu : Type := Nat × List Value × List Value × Wd
abbrev Rs : Type := Option Value × Wd
abbrev Op : Type := Mu → Option (Mu ⊕ Rs)
abbrev Ex : Type := Nat → List Value → Wd → Option Rs
abbrev Tb : Type := List (Nat × Op)
/-- the class of a place: its number in vwCl, 50 an array of ints, 51 of booleans -/
def clsL : List Nat := [6, 2, 50, 50, 5, 50, 50, 50, 50, 50, 50, 4, 50, 50, 50, 0, 50, 50, 50, 1, 3, 50, 50, 50, 50, 50, 50, 3, 50, 50, 50, 50, 50, 50, 7, 50, 50, 50, 50, 50, 50, 50, 51, 50, 50, 50, 50, 51, 51, 50, 50, 50, 50]
def clsOf (p : Nat) : Nat := clsL.getD p 99
def lenL : List Nat := [0, 0, 300, 5, 0, 4, 12, 12, 12, 8, 2, 0, 3906, 3906, 3906, 0, 6, 6, 1025, 0, 0, 5, 5, 5, 5, 4, 3, 0, 5, 5, 5, 5, 4, 3, 0, 300, 40, 8, 6, 12, 5, 10, 2, 36, 6, 6, 7776, 7776, 25, 1024, 5, 4, 4]
def lenOf (p : Nat) : Nat := lenL.getD p 0
/-- a class's fields: 0 an int, 1 a long, 2 a ref that moves, 10 + k the place k behind the object -/
def fkL : List (List Nat) := [
  [11, 12, 0, 13],
  [1],
  [11, 0, 0, 0, 0, 0, 0, 12, 0, 0, 0],
  [11, 12, 13, 14, 15, 16, 0, 0, 0, 0, 0, 0],
  [11, 12, 13, 0],
  [11, 0, 12, 13, 14, 0, 0, 15, 16, 0],
  [11, 14, 21, 25, 29, 2, 2],
  [0, 1, 11, 0, 0, 0, 0, 0, 0, 12, 13, 14, 15, 0, 0, 0, 0, 0, 0, 16, 17, 18, 19, 0, 20, 21, 0, 22, 23, 24, 0, 25, 26, 27, 28]]
def fkOf (ci k : Nat) : Nat := (fkL.getD ci []).getD k 0
def updI (w : Wd) (p k : Nat) (x : Int32) : Wd := (fun q => if q = p then upd (w.1 p) k x else w.1 q, w.2)
def updL (w : Wd) (p k : Nat) (x : Int64) : Wd := (w.1, fun q => if q = p then vp_updL (w.2 p) k x else w.2 q)
/-- places to addresses -/
def mv (ad : Nat → Nat) (v : Value) : Value := match v with
  | .ref k => .ref (ad k)
  | .retAddr _ => if ad 301 = 0 then .null else .ref (ad 300)
  | u => u
def fval (w : Wd) (p ci k : Nat) : Value := match fkOf ci k with
  | 0 => .int (w.1 p k)
  | 1 => .long (w.2 p k)
  | 2 => .ref (w.1 p k).toNatClampNeg
  | j => .ref (p + (j - 10))
def nfOf (ci : Nat) : Nat := (fkL.getD ci []).length
def flds (ad : Nat → Nat) (w : Wd) (p ci : Nat) : List Value := (List.range (nfOf ci)).map fun k => mv ad (fval w p ci k)
def cellOf (ad : Nat → Nat) (cI cZ : ClassId) (w : Wd) (p : Nat) : va_E :=
  if clsOf p = 50 then .inl (cI, lenOf p, .inl (w.1 p)) else if clsOf p = 51 then .inl (cZ, lenOf p, .inl (w.1 p)) else .inr (clsOf p, flds ad w p (clsOf p))
def wld (ad : Nat → Nat) (cI cZ : ClassId) (w : Wd) : va_W := (List.range 53).map fun p => (ad p, cellOf ad cI cZ w p)
theorem wld_at {ad : Nat → Nat} {cI cZ : ClassId} {w : Wd} {p : Nat} (hp : p < 53) : (wld ad cI cZ w)[p]? = some (ad p, cellOf ad cI cZ w p) := by
  simp [wld, List.getElem?_map, List.getElem?_range hp]
theorem wld_len {ad : Nat → Nat} {cI cZ : ClassId} {w : Wd} : (wld ad cI cZ w).length = 53 := by simp [wld]
theorem clsOf_lt {p : Nat} (h : clsOf p ≠ 99) : p < 53 := by
  rcases Nat.lt_or_ge p 53 with q | q
  · exact q
  · refine absurd ?_ h
    unfold clsOf
    rw [List.getD_eq_getElem?_getD, List.getElem?_eq_none (by simpa [clsL] using q)]
    rfl
theorem wld_set {ad : Nat → Nat} {cI cZ : ClassId} {w w' : Wd} {p : Nat} {e : va_E} (hp : p < 53) (he : cellOf ad cI cZ w' p = e) (ho : ∀ q, q ≠ p → cellOf ad cI cZ w' q = cellOf ad cI cZ w q) : (wld ad cI cZ w).set p (ad p, e) = wld ad cI cZ w' := by
  apply List.ext_getElem?
  intro j
  rw [List.getElem?_set]
  by_cases hj : p = j
  · subst hj
    rw [if_pos rfl, if_pos (by rw [wld_len]; exact hp), wld_at hp, he]
  · rw [if_neg hj]
    rcases Nat.lt_or_ge j 53 with q | q
    · rw [wld_at q, wld_at q, ho j (fun h => hj h.symm)]
    · rw [List.getElem?_eq_none (by rw [wld_len]; exact q), List.getElem?_eq_none (by rw [wld_len]; exact q)]
theorem updI_at (w : Wd) (p k : Nat) (x : Int32) : (updI w p k x).1 p = upd (w.1 p) k x := if_pos rfl
theorem updI_ne (w : Wd) {p q : Nat} (k : Nat) (x : Int32) (h : q ≠ p) : (updI w p k x).1 q = w.1 q := if_neg h
theorem updI_2 (w : Wd) (p k : Nat) (x : Int32) : (updI w p k x).2 = w.2 := rfl
theorem updL_at (w : Wd) (p k : Nat) (x : Int64) : (updL w p k x).2 p = vp_updL (w.2 p) k x := if_pos rfl
theorem updL_ne (w : Wd) {p q : Nat} (k : Nat) (x : Int64) (h : q ≠ p) : (updL w p k x).2 q = w.2 q := if_neg h
theorem updL_1 (w : Wd) (p k : Nat) (x : Int64) : (updL w p k x).1 = w.1 := rfl
theorem fval_I {w w' : Wd} {p ci k : Nat} (h : w'.1 p = w.1 p) (h2 : w'.2 p = w.2 p) : fval w' p ci k = fval w p ci k := by
  unfold fval
  rw [h, h2]
theorem cellOf_same {ad : Nat → Nat} {cI cZ : ClassId} {w w' : Wd} {p : Nat} (h : w'.1 p = w.1 p) (h2 : w'.2 p = w.2 p) : cellOf ad cI cZ w' p = cellOf ad cI cZ w p := by
  unfold cellOf flds
  rw [h]
  simp only [fval_I h h2]
theorem flds_len {ad : Nat → Nat} {w : Wd} {p ci : Nat} : (flds ad w p ci).length = nfOf ci := by simp [flds]
theorem flds_at {ad : Nat → Nat} {w : Wd} {p ci k : Nat} (hk : k < nfOf ci) : (flds ad w p ci)[k]? = some (mv ad (fval w p ci k)) := by
  simp [flds, List.getElem?_map, List.getElem?_range hk]
theorem flds_set {ad : Nat → Nat} {w w' : Wd} {p ci k : Nat} {v : Value} (hv : mv ad (fval w' p ci k) = v) (ho : ∀ j, j ≠ k → fval w' p ci j = fval w p ci j) : (flds ad w p ci).set k v = flds ad w' p ci := by
  apply List.ext_getElem?
  intro j
  rw [List.getElem?_set]
  by_cases hj : k = j
  · subst hj
    rw [if_pos rfl]
    by_cases hk : k < nfOf ci
    · rw [if_pos (by rw [flds_len]; exact hk), flds_at hk, hv]
    · rw [if_neg (by rw [flds_len]; exact hk), List.getElem?_eq_none (by rw [flds_len]; omega)]
  · rw [if_neg hj]
    by_cases hk : j < nfOf ci
    · rw [flds_at hk, flds_at hk, ho j (fun h => hj h.symm)]
    · rw [List.getElem?_eq_none (by rw [flds_len]; omega), List.getElem?_eq_none (by rw [flds_len]; omega)]
/-! the locals: a list of values, null where nothing is known -/
def LR (ad : Nat → Nat) (ls : Array Slot) (nL : Nat) (L : List Value) : Prop := L.length = nL ∧ ls.size = nL ∧ lv_wf ls ∧ ∀ (i : Nat) (v : Value), L[i]? = some v → v ≠ .null → ls[i]? = some (.val (mv ad v))
def Lp (ad : Nat → Nat) (L : List Value) : List (Nat × Value) := L.zipIdx.filterMap fun q => if q.1 = .null then none else some (q.2, mv ad q.1)
theorem Lp_mem {ad : Nat → Nat} {L : List Value} {i : Nat} {v : Value} (h : L[i]? = some v) (hn : v ≠ .null) : (i, mv ad v) ∈ Lp ad L := by
  unfold Lp
  refine List.mem_filterMap.mpr ⟨(v, i), List.mem_zipIdx_iff_getElem?.mpr h, ?_⟩
  rw [if_neg hn]
theorem LR.has {ad : Nat → Nat} {ls : Array Slot} {nL : Nat} {L : List Value} (h : LR ad ls nL L) : lv_has ls nL (Lp ad L) := by
  refine ⟨h.2.1, h.2.2.1, fun q hq => ?_⟩
  obtain ⟨⟨v, i⟩, h1, h2⟩ := List.mem_filterMap.mp hq
  by_cases hv : v = .null
  · rw [if_pos hv] at h2; cases h2
  · rw [if_neg hv] at h2
    cases h2
    exact h.2.2.2 i v (List.mem_zipIdx_iff_getElem?.mp h1) hv
theorem LR.of {ad : Nat → Nat} {ls : Array Slot} {nL : Nat} {l : List (Nat × Value)} {L : List Value} (h : lv_has ls nL l) (hL : L.length = nL) (hm : ∀ (i : Nat) (v : Value), L[i]? = some v → v ≠ .null → (i, mv ad v) ∈ l) : LR ad ls nL L :=
  ⟨hL, h.1, h.2.1, fun i v h1 h2 => h.2.2 _ (hm i v h1 h2)⟩
def nl (L : List Value) (i : Nat) : Bool := match i with
  | 0 => true
  | j + 1 => match L[j]? with
    | some v => v.category != 2
    | none => true
theorem mv_cat (ad : Nat → Nat) (v : Value) : (mv ad v).category = v.category := by
  cases v with
  | retAddr _ =>
    show (if ad 301 = 0 then Value.null else .ref (ad 300)).category = 1
    split <;> rfl
  | _ => rfl
theorem LR.st1 {ad : Nat → Nat} {ls : Array Slot} {nL i : Nat} {L : List Value} {v u : Value} (hL : L.length = nL) (hn : nl L i = true) (hu : mv ad v = u)
    (h : lv_has ls nL ((i, u) :: (Lp ad L).filter (fun q => !(q.1 == i) && !(q.1 + 1 == i && q.2.category == 2)))) : LR ad ls nL (L.set i v) := by
  refine LR.of h (by simp [hL]) (fun j z hj hz => ?_)
  rw [List.getElem?_set] at hj
  by_cases hij : i = j
  · subst hij
    rw [if_pos rfl] at hj
    split at hj
    · cases hj
      rw [hu]
      exact List.mem_cons_self
    · cases hj
  · rw [if_neg hij] at hj
    refine List.mem_cons_of_mem _ (List.mem_filter.mpr ⟨Lp_mem hj hz, ?_⟩)
    have h1 : (j == i) = false := by simpa using fun q => hij q.symm
    simp only [h1, Bool.not_false, Bool.true_and]
    by_cases h2 : j + 1 = i
    · subst h2
      simp only [nl, hj] at hn
      simp [mv_cat] at hn ⊢
      exact hn
    · simp [h2]
theorem LR.st2 {ad : Nat → Nat} {ls : Array Slot} {nL i : Nat} {L : List Value} {v u : Value} (hL : L.length = nL) (hn : nl L i = true) (hu : mv ad v = u)
    (h : lv_has ls nL ((i, u) :: (Lp ad L).filter (fun q => !(q.1 == i) && (!(q.1 == i + 1) && !(q.1 + 1 == i && q.2.category == 2))))) : LR ad ls nL ((L.set i v).set (i + 1) .null) := by
  refine LR.of h (by simp [hL]) (fun j z hj hz => ?_)
  rw [List.getElem?_set] at hj
  by_cases hij1 : i + 1 = j
  · rw [if_pos hij1] at hj
    split at hj
    · cases hj; exact absurd rfl hz
    · cases hj
  rw [if_neg hij1, List.getElem?_set] at hj
  by_cases hij : i = j
  · subst hij
    rw [if_pos rfl] at hj
    split at hj
    · cases hj
      rw [hu]
      exact List.mem_cons_self
    · cases hj
  · rw [if_neg hij] at hj
    refine List.mem_cons_of_mem _ (List.mem_filter.mpr ⟨Lp_mem hj hz, ?_⟩)
    have h1 : (j == i) = false := by simpa using fun q => hij q.symm
    have h1' : (j == i + 1) = false := by simpa using fun q => hij1 q.symm
    simp only [h1, h1', Bool.not_false, Bool.true_and]
    by_cases h2 : j + 1 = i
    · subst h2
      simp only [nl, hj] at hn
      simp [mv_cat] at hn ⊢
      exact hn
    · simp [h2]
theorem LR.forget {ad : Nat → Nat} {ls : Array Slot} {nL i : Nat} {L : List Value} (h : LR ad ls nL L) : LR ad ls nL (L.set i .null) := by
  refine ⟨by simp [h.1], h.2.1, h.2.2.1, fun j v hj hv => ?_⟩
  rw [List.getElem?_set] at hj
  split at hj
  · split at hj
    · cases hj; exact absurd rfl hv
    · cases hj
  · exact h.2.2.2 j v hj hv
def fgt (L : List Value) (ks : List Nat) : List Value := ks.foldl (fun M k => M.set k .null) L
theorem LR_fgt {ad : Nat → Nat} {ls : Array Slot} {nL : Nat} (ks : List Nat) : ∀ {L : List Value}, LR ad ls nL L → LR ad ls nL (fgt L ks) := by
  induction ks with
  | nil => intro L h; exact h
  | cons k ks ih => intro L h; exact ih h.forget

/-! sets of spells as numbers -/
def popN (V : Nat) : Nat → Nat
  | 0 => 0
  | n + 1 => popN V n + V / 2 ^ n % 2
/-- how many are in a set -/
def pop (V : Nat) : Nat := popN V 10
def bcE (x : Int32) : Int32 :=
  let sh := fun (x y : Int32) => (x.toUInt32 >>> (y.toUInt32 &&& Int32.toUInt32 31)).toInt32
  let a := x - (sh x 1 &&& 1431655765)
  let b := (a &&& 858993459) + (sh a 2 &&& 858993459)
  let c := (b + sh b 4) &&& 252645135
  let d := c + sh c 8
  d + sh d 16
def bcI (x : Int32) : Int32 := bcE x &&& 63
theorem bcI_pop : ∀ n : Nat, n < 32 → bcI (nI n) = nI (pop n) := by decide +kernel
theorem s_bitCount {d n : Nat} {w : Wd} (hn : n < 32) : sem (d + 1) 198 [.int (nI n)] w = some (some (.int (nI (pop n))), w) := by
  refine e_J6_bitCount_0f7a4.trans ?_
  rw [← bcI_pop n hn]
  refine (runs_stps (q' := (52, [.int (bcE (nI n))], [.int (bcI (nI n))], w)) 41 rfl).trans ?_
  exact runs_ret rfl
theorem pop_le : ∀ V : Nat, V < 32 → pop V ≤ 5 := by decide +kernel
theorem two32 {c : Nat → Nat → Nat} (hc : okc c) : 2 ^ c 0 0 ≤ 32 := Nat.pow_le_pow_right (n := 2) (by decide) hc.1
/-- one below n that is so -/
def exN (f : Nat → Bool) : Nat → Bool
  | 0 => false
  | n + 1 => exN f n || f n
theorem exN_iff {f : Nat → Bool} : ∀ {n : Nat}, exN f n = true ↔ ∃ k, k < n ∧ f k = true := by
  intro n
  induction n with
  | zero => simp [exN]
  | succ n ih =>
    unfold exN
    rw [Bool.or_eq_true, ih]
    constructor
    · rintro (⟨q, h1, h2⟩ | h)
      · exact ⟨q, by omega, h2⟩
      · exact ⟨n, by omega, h⟩
    · rintro ⟨q, h1, h2⟩
      by_cases hq : q = n
      · subst hq; exact Or.inr h2
      · exact Or.inl ⟨q, by omega, h2⟩
def sosN (c : Nat → Nat → Nat) (set : Nat) : Nat → Nat
  | 0 => 0
  | n + 1 => if set.testBit n = true then sosN c set n ||| c 5 n else sosN c set n
/-- what one of the set may say -/
def sos (c : Nat → Nat → Nat) (set : Nat) : Nat := sosN c set (c 0 2)
def sayN (c : Nat → Nat → Nat) (s : Nat) : Nat → Nat
  | 0 => 0
  | n + 1 => sayN c s n + c 5 n / 2 ^ s % 2
def wbW (c : Nat → Nat → Nat) (V : Nat) : Nat → Nat
  | 0 => 0
  | n + 1 => if V.testBit n = true then wbW c V n ||| 2 ^ c 1 n else wbW c V n
def wbK (c : Nat → Nat → Nat) (V : Nat) : Nat → Nat
  | 0 => 0
  | n + 1 => if V.testBit n = true then wbK c V n + (1 - c 2 n) else wbK c V n
/-- what a set, each laid once, works over a base; none: not all can be seen -/
def wob (c : Nat → Nat → Nat) (V : Nat) (base : List Nat) : Option Nat :=
  if 1 < wbK c V (c 0 0) then none else if wbK c V (c 0 0) = 1 then some (wbW c V (c 0 0)) else some (wbW c V (c 0 0) ||| wk c base)
def woI : Option Nat → Int32
  | some n => nI n
  | none => -1
theorem wbW_lt {c : Nat → Nat → Nat} (hc : okc c) {V : Nat} : ∀ {n : Nat}, n ≤ c 0 0 → wbW c V n < 2 ^ 10 := by
  intro n
  induction n with
  | zero => intro _; show 0 < 2 ^ 10; decide
  | succ n ih =>
    intro h
    have h1 := (hc.2.2.2.2.2.2.1 n (by omega)).1
    have h2 : 2 ^ c 1 n < 2 ^ 10 := Nat.pow_lt_pow_right (by decide) (by omega)
    have h3 := ih (by omega)
    unfold wbW
    split
    · exact Nat.or_lt_two_pow h3 h2
    · exact h3
theorem wbK_le {c : Nat → Nat → Nat} {V : Nat} : ∀ {n : Nat}, wbK c V n ≤ n := by
  intro n
  induction n with
  | zero => exact Nat.le_refl _
  | succ n ih =>
    unfold wbK
    split <;> omega
theorem wob_lt {c : Nat → Nat → Nat} (hc : okc c) {V e : Nat} {base : List Nat} (hb : ∀ s ∈ base, s < c 0 0) (h : wob c V base = some e) : e < 2 ^ 10 := by
  unfold wob at h
  have h1 := wbW_lt hc (V := V) (n := c 0 0) (Nat.le_refl _)
  have h2 := wk_lt hc hb
  split at h
  · exact absurd h (by simp)
  · split at h
    · rw [← Option.some.inj h]; exact h1
    · rw [← Option.some.inj h]; exact Nat.or_lt_two_pow h1 h2
theorem woI_eq {o : Option Nat} {e : Nat} (ho : ∀ x, o = some x → x < 2 ^ 10) (he : e < 2 ^ 10) : woI o = nI e ↔ o = some e := by
  cases o with
  | none =>
    constructor
    · intro h
      exfalso
      have h1 : (-1 : Int32) = nI e := h
      have h2 := nI_pos (n := e) (by omega)
      rw [← h1] at h2
      exact h2 (by decide)
    · intro h; exact absurd h (by simp)
  | some x =>
    have hx := ho x rfl
    constructor
    · intro h
      rw [(nI_eq (a := x) (b := e) (by omega) (by omega)).mp h]
    · intro h; rw [Option.some.inj h]; rfl
/-- what of a row can't be lifted by those who may say these -/
def bas (say : Nat) : List Nat → List Nat
  | [] => []
  | s :: r => if say.testBit s = true then bas say r else s :: r
/-- whether a set does it -/
def fitW (c : Nat → Nat → Nat) (base : List Nat) (e say V : Nat) : Bool := decide (V ||| say = say) && (decide (pop V ≤ 5 - base.length) && decide (wob c V base = some e))
def hasW (c : Nat → Nat → Nat) (r : List Nat) (e say : Nat) : Bool := exN (fitW c (bas say r) e say) (2 ^ c 0 0)
theorem bas_ok {S say : Nat} : ∀ {r : List Nat}, okr S r → okr S (bas say r) := by
  intro r
  induction r with
  | nil => intro h; exact h
  | cons s r ih =>
    intro h
    unfold bas
    split
    · exact ih h.tl
    · exact h
theorem i_sub : ∀ V : Nat, V < 32 → ∀ say : Nat, say < 32 → ((nI V &&& (nI say ^^^ (-1)) = 0) ↔ V ||| say = say) := by decide +kernel
section XSETS
variable {d p : Nat} {c : Nat → Nat → Nat} {w : Wd}
theorem c5_lt (hc : okc c) {q : Nat} (hq : q < c 0 2) : c 5 q < 2 ^ 5 := Nat.lt_of_lt_of_le (hc.2.2.2.2.2.2.2 q hq) (two32 hc)
theorem sosN_lt (hc : okc c) {set : Nat} : ∀ {n : Nat}, n ≤ c 0 2 → sosN c set n < 2 ^ 5 := by
  intro n
  induction n with
  | zero => intro _; show 0 < 2 ^ 5; decide
  | succ n ih =>
    intro h
    have h3 := ih (by omega)
    unfold sosN
    split
    · exact Nat.or_lt_two_pow h3 (c5_lt hc (by omega))
    · exact h3
theorem l_spellsOfSet {set : Nat} (hp : scp p) (X : XS p c w) (hc : okc c) (hs : set < 2 ^ 31) : ∀ (m k : Nat), m + k = c 0 2 → runs (T_X5_spellsOfSet (sem (d + 2))) (4, [.ref p, .int (nI set), .int (nI (sosN c set k)), .int (nI k)], [], w) = some (some (.int (nI (sos c set))), w) := by
  have h3 := hc.2.2.1
  intro m
  induction m with
  | zero =>
    intro k hk
    have e : k = c 0 2 := by omega
    rw [e]
    exact p_X5_spellsOfSet_4T_R hp (by rw [X.2.2.1]; exact nI_le (Nat.le_refl _) (by omega))
  | succ m ih =>
    intro k hk
    have hlt : ¬ (w.1 p 8) ≤ nI k := by rw [X.2.2.1]; exact nI_ge (by omega) (by omega)
    have e2 : sosN c set (k + 1) = if set.testBit k = true then sosN c set k ||| c 5 k else sosN c set k := rfl
    by_cases hb : set.testBit k = true
    · refine (p_X5_spellsOfSet_4FF_L4 hp hlt ((i_bit1 hs (by omega)).mpr hb) (s_spellsOfPupil hp X hc (by omega))).trans ?_
      rw [if_pos hb] at e2
      rw [nI_1, i_or, ← e2]
      exact ih (k + 1) (by omega)
    · refine (p_X5_spellsOfSet_4FT_L4 hp hlt (fun h => hb ((i_bit1 hs (by omega)).mp h))).trans ?_
      rw [if_neg hb] at e2
      rw [nI_1, ← e2]
      exact ih (k + 1) (by omega)
theorem s_spellsOfSet {set : Nat} (hp : scp p) (X : XS p c w) (hc : okc c) (hs : set < 2 ^ 31) : sem (d + 3) 69 [.ref p, .int (nI set)] w = some (some (.int (nI (sos c set))), w) :=
  e_X5_spellsOfSet.trans ((p_X5_spellsOfSet_0_L4 hp).trans (l_spellsOfSet hp X hc hs (c 0 2) 0 (by omega)))
theorem l_sayersOf {s : Nat} (hp : scp p) (X : XS p c w) (hc : okc c) (hs : s < 5) : ∀ (m k : Nat), m + k = c 0 2 → runs (T_X5_sayersOf (sem (d + 2))) (4, [.ref p, .int (nI s), .int (nI (sayN c s k)), .int (nI k)], [], w) = some (some (.int (nI (sayN c s (c 0 2)))), w) := by
  have h3 := hc.2.2.1
  intro m
  induction m with
  | zero =>
    intro k hk
    have e : k = c 0 2 := by omega
    rw [e]
    exact p_X5_sayersOf_4T_R hp (by rw [X.2.2.1]; exact nI_le (Nat.le_refl _) (by omega))
  | succ m ih =>
    intro k hk
    have hlt : ¬ (w.1 p 8) ≤ nI k := by rw [X.2.2.1]; exact nI_ge (by omega) (by omega)
    have h5 := c5_lt hc (q := k) (by omega)
    refine (p_X5_sayersOf_4F_L4 hp hlt (s_spellsOfPupil hp X hc (by omega))).trans ?_
    rw [i_bit (by omega) (by omega), nI_add, nI_1]
    exact ih (k + 1) (by omega)
theorem s_sayersOf {s : Nat} (hp : scp p) (X : XS p c w) (hc : okc c) (hs : s < 5) : sem (d + 3) 70 [.ref p, .int (nI s)] w = some (some (.int (nI (sayN c s (c 0 2)))), w) :=
  e_X5_sayersOf.trans ((p_X5_sayersOf_0_L4 hp).trans (l_sayersOf hp X hc hs (c 0 2) 0 (by omega)))
theorem l_worksOnBase {V : Nat} {base : List Nat} (hp : scp p) (X : XS p c w) (hc : okc c) (hV : V < 2 ^ 31) (hb : okr (c 0 0) base) : ∀ (m k : Nat), m + k = c 0 0 → runs (T_X5_worksOnBase (sem (d + 3))) (8, [.ref p, .int (nI V), .int (nI (cx base)), .int (nI (wbW c V k)), .int (nI (wbK c V k)), .int (nI k)], [], w) = some (some (.int (woI (wob c V base))), w) := by
  have h5 := hc.1
  intro m
  induction m with
  | zero =>
    intro k hk
    have e : k = c 0 0 := by omega
    rw [e]
    have h1 : (w.1 p 6) ≤ nI (c 0 0) := by rw [X.1]; exact nI_le (Nat.le_refl _) (by omega)
    have h2 := wbK_le (c := c) (V := V) (n := c 0 0)
    unfold wob
    by_cases k1 : 1 < wbK c V (c 0 0)
    · rw [if_pos k1]
      exact p_X5_worksOnBase_8TF_R hp h1 (nI_ge (a := 1) k1 (by omega))
    · rw [if_neg k1]
      have h3 : nI (wbK c V (c 0 0)) ≤ 1 := nI_le (b := 1) (by omega) (by decide)
      by_cases k2 : wbK c V (c 0 0) = 1
      · rw [if_pos k2]
        exact p_X5_worksOnBase_8TTF_R hp h1 h3 (by rw [k2]; rfl)
      · rw [if_neg k2]
        refine (p_X5_worksOnBase_8TTT_R hp h1 h3 (fun h => k2 ((nI_eq (b := 1) (by omega) (by decide)).mp h)) (s_worksOf hp X hc hb)).trans ?_
        rw [i_or]
        rfl
  | succ m ih =>
    intro k hk
    have hlt : ¬ (w.1 p 6) ≤ nI k := by rw [X.1]; exact nI_ge (by omega) (by omega)
    have hks : k < c 0 0 := by omega
    obtain ⟨g1, g2, g3, g4⟩ := hc.2.2.2.2.2.2.1 k hks
    have e1 : wbW c V (k + 1) = if V.testBit k = true then wbW c V k ||| 2 ^ c 1 k else wbW c V k := rfl
    have e2 : wbK c V (k + 1) = if V.testBit k = true then wbK c V k + (1 - c 2 k) else wbK c V k := rfl
    by_cases hbt : V.testBit k = true
    · rw [if_pos hbt] at e1 e2
      have e3 : nI (wbW c V k) ||| ((1 : Int32) <<< (nI (c 1 k) &&& 31)) = nI (wbW c V (k + 1)) := by rw [i_pow (by omega), i_or, e1]
      have e4 := s_isGlass (d := d + 1) hp X hc hks
      rcases (by omega : c 2 k = 0 ∨ c 2 k = 1) with hg | hg
      · rw [hg] at e4
        refine (p_X5_worksOnBase_8FFT_L8 hp hlt ((i_bit1 hV (by omega)).mpr hbt) (s_effectOf hp X hc hks) e4 rfl).trans ?_
        rw [e3, nI_1, nI_1, show wbK c V k + 1 = wbK c V (k + 1) by omega]
        exact ih (k + 1) (by omega)
      · rw [hg] at e4
        refine (p_X5_worksOnBase_8FFF_L8 hp hlt ((i_bit1 hV (by omega)).mpr hbt) (s_effectOf hp X hc hks) e4 (by decide)).trans ?_
        rw [e3, nI_1, Int32.add_zero, show wbK c V k = wbK c V (k + 1) by omega]
        exact ih (k + 1) (by omega)
    · rw [if_neg hbt] at e1 e2
      refine (p_X5_worksOnBase_8FT_L8 hp hlt (fun h => hbt ((i_bit1 hV (by omega)).mp h))).trans ?_
      rw [nI_1, ← e1, ← e2]
      exact ih (k + 1) (by omega)
theorem s_worksOnBase {V : Nat} {base : List Nat} (hp : scp p) (X : XS p c w) (hc : okc c) (hV : V < 2 ^ 31) (hb : okr (c 0 0) base) : sem (d + 4) 80 [.ref p, .int (nI V), .int (nI (cx base))] w = some (some (.int (woI (wob c V base))), w) :=
  e_X5_worksOnBase.trans ((p_X5_worksOnBase_0_L8 hp).trans (l_worksOnBase hp X hc hV hb (c 0 0) 0 (by omega)))
theorem l_hasWay2 {e say : Nat} {base : List Nat} (hp : scp p) (X : XS p c w) (hc : okc c) (he : e < 2 ^ 10) (hsy : say < 32) (hb : okr (c 0 0) base) : ∀ (m k : Nat) (v1 v7 : Value), m + k = 2 ^ c 0 0 → exN (fitW c base e say) k = false → runs (T_X5_hasWay (sem (d + 4))) (55, [.ref p, v1, .int (nI e), .int (nI say), .int (nI (cx base)), .int (nI (5 - base.length)), .int (nI k), v7], [], w) = some (some (.int (b2i (exN (fitW c base e say) (2 ^ c 0 0)))), w) := by
  have h5 := hc.1
  have h32 := two32 hc
  have hl := hb.1
  have e0 : (1 : Int32) <<< (w.1 p 6 &&& 31) = nI (2 ^ c 0 0) := by rw [X.1]; exact i_pow (by omega)
  intro m
  induction m with
  | zero =>
    intro k v1 v7 hk hf
    have ek : k = 2 ^ c 0 0 := by omega
    rw [ek] at hf ⊢
    rw [hf]
    exact p_X5_hasWay_55T_R hp (by rw [e0]; exact nI_le (Nat.le_refl _) (by omega))
  | succ m ih =>
    intro k v1 v7 hk hf
    have hlt : ¬ (1 : Int32) <<< (w.1 p 6 &&& 31) ≤ nI k := by rw [e0]; exact nI_ge (by omega) (by omega)
    have go : fitW c base e say k = false → exN (fitW c base e say) (k + 1) = false := by
      intro h
      unfold exN
      rw [hf, h]
      rfl
    by_cases a1 : k ||| say = say
    · have b1 := (i_sub k (by omega) say hsy).mpr a1
      have b2 := s_bitCount (d := d + 3) (n := k) (w := w) (by omega)
      have b3 := pop_le k (by omega)
      by_cases a2 : pop k ≤ 5 - base.length
      · have b4 := s_worksOnBase (d := d) (V := k) hp X hc (by omega) hb
        have b5 : woI (wob c k base) = nI e ↔ wob c k base = some e := woI_eq (fun x hx => wob_lt hc hb.2 hx) he
        by_cases a3 : wob c k base = some e
        · have b6 : exN (fitW c base e say) (2 ^ c 0 0) = true := exN_iff.mpr ⟨k, by omega, by unfold fitW; rw [decide_eq_true a1, decide_eq_true a2, decide_eq_true a3]; rfl⟩
          rw [b6]
          exact p_X5_hasWay_55FFFFF_R hp hlt b1 b2 (nI_nlt a2 (by omega)) (by decide) b4 (b5.mpr a3)
        · refine (p_X5_hasWay_55FFFFT_L55 hp hlt b1 b2 (nI_nlt a2 (by omega)) (by decide) b4 (fun h => a3 (b5.mp h))).trans ?_
          rw [nI_1]
          exact ih (k + 1) .null .null (by omega) (go (by unfold fitW; rw [decide_eq_false a3]; simp))
      · refine (p_X5_hasWay_55FFTT_L55 hp hlt b1 b2 (nI_lt (by omega) (by omega)) rfl).trans ?_
        rw [nI_1]
        exact ih (k + 1) .null .null (by omega) (go (by unfold fitW; rw [decide_eq_false a2]; simp))
    · refine (p_X5_hasWay_55FTT_L55 hp hlt (fun h => a1 ((i_sub k (by omega) say hsy).mp h)) rfl).trans ?_
      rw [nI_1]
      exact ih (k + 1) .null .null (by omega) (go (by unfold fitW; rw [decide_eq_false a1]; simp))
theorem i_5sub : ∀ l : Nat, l ≤ 5 → (5 : Int32) - nI l = nI (5 - l) := by decide +kernel
theorem l_hasWay1 {e say : Nat} (hp : scp p) (X : XS p c w) (hc : okc c) (hsy : say < 32) : ∀ (r : List Nat) (k : Nat) (v1 v6 v7 : Value), okr (c 0 0) r → k + r.length ≤ 5 → runs (T_X5_hasWay (sem (d + 4))) (6, [.ref p, v1, .int (nI e), .int (nI say), .int (nI (cx r)), .int (nI k), v6, v7], [], w) = runs (T_X5_hasWay (sem (d + 4))) (55, [.ref p, .null, .int (nI e), .int (nI say), .int (nI (cx (bas say r))), .int (nI (5 - (bas say r).length)), .int (nI 0), .null], [], w) := by
  intro r
  induction r with
  | nil =>
    intro k v1 v6 v7 h hk
    have hd := s_depth (d := d + 2) (r := []) (w := w) okr.nil
    by_cases h5 : k = 5
    · have h1 : (5 : Int32) ≤ nI k := by rw [h5]; decide
      refine (p_X5_hasWay_6T_L55 hp h1 hd).trans ?_
      rw [show nI ([] : List Nat).length = nI 0 from rfl, i_5sub 0 (by decide)]
      rfl
    · simp only [List.length_nil] at hk
      have h1 : ¬ (5 : Int32) ≤ nI k := nI_ge (b := 5) (by omega) (by decide)
      refine (p_X5_hasWay_6FT_L55 hp h1 (by decide) hd).trans ?_
      rw [show nI ([] : List Nat).length = nI 0 from rfl, i_5sub 0 (by decide)]
      rfl
  | cons s r ih =>
    intro k v1 v6 v7 h hk
    have h5 := hc.1
    have hr5 := h.five hc
    have hb := cx_lt hr5
    have hz : 0 < cx (s :: r) := Nat.succ_pos _
    have hs := h.hd
    simp only [List.length_cons] at hk
    have h1 : ¬ (5 : Int32) ≤ nI k := nI_ge (b := 5) (by omega) (by decide)
    have e1 : bas say (s :: r) = if say.testBit s = true then bas say r else s :: r := rfl
    by_cases hbt : say.testBit s = true
    · refine (p_X5_hasWay_6FFF_L6 hp h1 (nI_nle hz (by omega)) (s_top hr5) ((i_bit1 (by omega) (by omega)).mpr hbt) (s_below hr5)).trans ?_
      rw [e1, if_pos hbt, nI_1]
      exact ih (k + 1) .null .null .null h.tl (by omega)
    · have hd := s_depth (d := d + 2) (w := w) hr5
      refine (p_X5_hasWay_6FFT_L55 hp h1 (nI_nle hz (by omega)) (s_top hr5) (fun hh => hbt ((i_bit1 (by omega) (by omega)).mp hh)) hd).trans ?_
      rw [e1, if_neg hbt, i_5sub _ h.1]
      rfl
theorem s_hasWay {e say : Nat} {r : List Nat} (hp : scp p) (X : XS p c w) (hc : okc c) (he : e < 2 ^ 10) (hsy : say < 32) (h : okr (c 0 0) r) : sem (d + 5) 78 [.ref p, .int (nI (cx r)), .int (nI e), .int (nI say)] w = some (some (.int (b2i (hasW c r e say))), w) := by
  refine e_X5_hasWay.trans ((p_X5_hasWay_0_L6 hp).trans ?_)
  refine (l_hasWay1 hp X hc hsy r 0 _ _ _ h (by have := h.1; omega)).trans ?_
  exact l_hasWay2 hp X hc he hsy (bas_ok h) (2 ^ c 0 0) 0 _ _ (by omega) rfl
/-- the least set of the fewest, as an int; none: -1 -/
def isFew (f : Nat → Bool) (n : Nat) (x : Int32) : Prop :=
  (∃ V, V < n ∧ f V = true ∧ x = nI V ∧ ∀ V2, V2 < n → f V2 = true → pop V < pop V2 ∨ (pop V = pop V2 ∧ V ≤ V2)) ∨ ((∀ V, V < n → f V = false) ∧ x = -1)
def few0 (c : Nat → Nat → Nat) (e V : Nat) : Bool := decide (wob c V [] = some e)
theorem l_few2 {e z : Nat} (hp : scp p) (X : XS p c w) (hc : okc c) (he : e < 2 ^ 10) (hz : z ≤ c 0 0) : ∀ (m k : Nat), m + k = 2 ^ c 0 0 → (∀ V, V < k → pop V = z → few0 c e V = false) →
    (∃ V, k ≤ V ∧ V < 2 ^ c 0 0 ∧ pop V = z ∧ few0 c e V = true ∧ (∀ V2, V2 < V → pop V2 = z → few0 c e V2 = false) ∧ runs (T_X5_fewestFor (sem (d + 4))) (12, [.ref p, .int (nI e), .int (nI z), .int (nI k)], [], w) = some (some (.int (nI V)), w)) ∨
    ((∀ V, V < 2 ^ c 0 0 → pop V = z → few0 c e V = false) ∧ runs (T_X5_fewestFor (sem (d + 4))) (12, [.ref p, .int (nI e), .int (nI z), .int (nI k)], [], w) = runs (T_X5_fewestFor (sem (d + 4))) (2, [.ref p, .int (nI e), .int (nI (z + 1)), .null], [], w)) := by
  have h5 := hc.1
  have h32 := two32 hc
  have e0 : (1 : Int32) <<< (w.1 p 6 &&& 31) = nI (2 ^ c 0 0) := by rw [X.1]; exact i_pow (by omega)
  intro m
  induction m with
  | zero =>
    intro k hk hf
    have ek : k = 2 ^ c 0 0 := by omega
    rw [ek] at hf ⊢
    refine Or.inr ⟨hf, ?_⟩
    refine (p_X5_fewestFor_12T_L2 hp (by rw [e0]; exact nI_le (Nat.le_refl _) (by omega))).trans ?_
    rw [nI_1]
  | succ m ih =>
    intro k hk hf
    have hlt : ¬ (1 : Int32) <<< (w.1 p 6 &&& 31) ≤ nI k := by rw [e0]; exact nI_ge (by omega) (by omega)
    have b2 := s_bitCount (d := d + 3) (n := k) (w := w) (by omega)
    have b3 := pop_le k (by omega)
    have nx : (pop k = z → few0 c e k = false) → ∀ V, V < k + 1 → pop V = z → few0 c e V = false := by
      intro h V hV hp2
      by_cases hq : V = k
      · subst hq; exact h hp2
      · exact hf V (by omega) hp2
    by_cases a2 : pop k = z
    · have b4 := s_worksOnBase (d := d) (V := k) (base := []) hp X hc (by omega) okr.nil
      have b5 : woI (wob c k []) = nI e ↔ wob c k [] = some e := woI_eq (fun x hx => wob_lt hc okr.nil.2 hx) he
      by_cases a3 : wob c k [] = some e
      · refine Or.inl ⟨k, Nat.le_refl _, by omega, a2, decide_eq_true a3, hf, ?_⟩
        exact p_X5_fewestFor_12FFF_R hp hlt b2 (by rw [a2]) b4 (b5.mpr a3)
      · have hr := p_X5_fewestFor_12FFT_L12 (x1 := nI e) (x2 := nI z) (x3 := nI k) hp hlt b2 (by rw [a2]) b4 (fun h => a3 (b5.mp h))
        rw [nI_1] at hr
        rcases ih (k + 1) (by omega) (nx (fun _ => decide_eq_false a3)) with ⟨V, g1, g2, g3, g4, g5, g6⟩ | ⟨g1, g2⟩
        · exact Or.inl ⟨V, by omega, g2, g3, g4, g5, hr.trans g6⟩
        · exact Or.inr ⟨g1, hr.trans g2⟩
    · have hr := p_X5_fewestFor_12FT_L12 (x1 := nI e) (x2 := nI z) (x3 := nI k) hp hlt b2 (fun h => a2 ((nI_eq (by omega) (by omega)).mp h))
      rw [nI_1] at hr
      rcases ih (k + 1) (by omega) (nx (fun h => absurd h a2)) with ⟨V, g1, g2, g3, g4, g5, g6⟩ | ⟨g1, g2⟩
      · exact Or.inl ⟨V, by omega, g2, g3, g4, g5, hr.trans g6⟩
      · exact Or.inr ⟨g1, hr.trans g2⟩
theorem l_few1 {e : Nat} (hp : scp p) (X : XS p c w) (hc : okc c) (he : e < 2 ^ 10) (hpop : ∀ V, V < 2 ^ c 0 0 → pop V ≤ c 0 0) : ∀ (m z : Nat) (v3 : Value), m + z = c 0 0 + 1 → (∀ V, V < 2 ^ c 0 0 → pop V < z → few0 c e V = false) → ∃ x, isFew (few0 c e) (2 ^ c 0 0) x ∧ runs (T_X5_fewestFor (sem (d + 4))) (2, [.ref p, .int (nI e), .int (nI z), v3], [], w) = some (some (.int x), w) := by
  have h5 := hc.1
  intro m
  induction m with
  | zero =>
    intro z v3 hz hf
    have ez : z = c 0 0 + 1 := by omega
    refine ⟨-1, Or.inr ⟨fun V hV => hf V hV (by have := hpop V hV; omega), rfl⟩, ?_⟩
    exact p_X5_fewestFor_2T_R hp (by rw [X.1]; exact nI_lt (by omega) (by omega))
  | succ m ih =>
    intro z v3 hz hf
    have e1 := p_X5_fewestFor_2F_L12 (ex := sem (d + 4)) (x1 := nI e) (x2 := nI z) (v3 := v3) (w := w) hp (by rw [X.1]; exact nI_nlt (by omega) (by omega))
    rcases l_few2 (d := d) hp X hc he (z := z) (by omega) (2 ^ c 0 0) 0 (by omega) (fun V h => absurd h (Nat.not_lt_zero _)) with ⟨V, g1, g2, g3, g4, g5, g6⟩ | ⟨g1, g2⟩
    · refine ⟨nI V, Or.inl ⟨V, g2, g4, rfl, fun V2 k1 k2 => ?_⟩, e1.trans g6⟩
      rcases Nat.lt_trichotomy (pop V2) z with h | h | h
      · rw [hf V2 k1 h] at k2; exact absurd k2 (by decide)
      · refine Or.inr ⟨by omega, ?_⟩
        rcases Nat.lt_or_ge V2 V with h2 | h2
        · rw [g5 V2 h2 h] at k2; exact absurd k2 (by decide)
        · exact h2
      · exact Or.inl (by omega)
    · obtain ⟨x, k1, k2⟩ := ih (z + 1) .null (by omega) (fun V hV hp2 => by
        by_cases h : pop V = z
        · exact g1 V hV h
        · exact hf V hV (by omega))
      exact ⟨x, k1, e1.trans (g2.trans k2)⟩
theorem pop_bits : ∀ S : Nat, S ≤ 5 → ∀ V : Nat, V < 2 ^ S → pop V ≤ S := by decide +kernel
theorem s_fewestFor {e : Nat} (hp : scp p) (X : XS p c w) (hc : okc c) (he : e < 2 ^ 10) : ∃ x, isFew (few0 c e) (2 ^ c 0 0) x ∧ sem (d + 5) 79 [.ref p, .int (nI e)] w = some (some (.int x), w) := by
  obtain ⟨x, h1, h2⟩ := l_few1 (d := d) hp X hc he (pop_bits _ hc.1) (c 0 0 + 1) 0 .null (by omega) (fun V _ h => absurd h (Nat.not_lt_zero _))
  exact ⟨x, h1, e_X5_fewestFor.trans ((p_X5_fewestFor_0_L2 hp).trans h2)⟩
end XSETS

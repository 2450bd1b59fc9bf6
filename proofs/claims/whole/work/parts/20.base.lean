/-! rows as lists, the uppermost first; their two codes; small facts of ints -/
theorem fa_lt (a b : Int32) : a < b ↔ a.toInt < b.toInt := Int32.lt_iff_toInt_lt
theorem fa_le (a b : Int32) : a ≤ b ↔ a.toInt ≤ b.toInt := Int32.le_iff_toInt_le
theorem fa_eq (a b : Int32) : a = b ↔ a.toInt = b.toInt := Int32.toInt_inj.symm
theorem fa_lit (n : Nat) : (OfNat.ofNat n : Int32) = nI n := rfl
theorem i_nle {a b : Int32} (h : ¬ a ≤ b) : b < a := by rw [fa_le] at h; rw [fa_lt]; omega
theorem i_nlt {a b : Int32} (h : ¬ a < b) : b ≤ a := by rw [fa_lt] at h; rw [fa_le]; omega
theorem i_lt_nle {a b : Int32} (h : b < a) : ¬ a ≤ b := by rw [fa_lt] at h; rw [fa_le]; omega
theorem i_le_nlt {a b : Int32} (h : b ≤ a) : ¬ a < b := by rw [fa_le] at h; rw [fa_lt]; omega
/-- an int is below 0 or a number -/
theorem i_cases (x : Int32) : x < 0 ∨ ∃ n : Nat, n < 2 ^ 31 ∧ x = nI n := by
  by_cases h : x < 0
  · exact Or.inl h
  · exact Or.inr (nI_of h)
theorem i_nn {n : Nat} (h : n < 2 ^ 31) : ¬ nI n < 0 := nI_pos h
def cx : List Nat → Nat
  | [] => 0
  | s :: r => 5 * cx r + s + 1
def cm : List Nat → Nat
  | [] => 0
  | s :: r => 6 * cm r + s + 1
def okr (S : Nat) (r : List Nat) : Prop := r.length ≤ 5 ∧ ∀ s ∈ r, s < S
theorem okr.tl {S s : Nat} {r : List Nat} (h : okr S (s :: r)) : okr S r := ⟨by have := h.1; simp at this; omega, fun z hz => h.2 z (List.mem_cons_of_mem _ hz)⟩
theorem okr.hd {S s : Nat} {r : List Nat} (h : okr S (s :: r)) : s < S := h.2 s List.mem_cons_self
theorem okr.nil {S : Nat} : okr S [] := ⟨Nat.zero_le _, fun _ h => absurd h List.not_mem_nil⟩
theorem okr.up {S S2 : Nat} {r : List Nat} (h : okr S r) (hs : S ≤ S2) : okr S2 r := ⟨h.1, fun z hz => Nat.lt_of_lt_of_le (h.2 z hz) hs⟩
theorem cx_len {r : List Nat} (h : ∀ s ∈ r, s < 5) : 4 * cx r + 5 ≤ 5 ^ (r.length + 1) := by
  induction r with
  | nil => decide
  | cons s r ih =>
    have h1 := ih (fun z hz => h z (List.mem_cons_of_mem _ hz))
    have h2 := h s List.mem_cons_self
    show 4 * (5 * cx r + s + 1) + 5 ≤ 5 ^ (r.length + 1 + 1)
    rw [Nat.pow_succ]
    omega
theorem cm_len {r : List Nat} (h : ∀ s ∈ r, s < 5) : cm r < 6 ^ r.length := by
  induction r with
  | nil => decide
  | cons s r ih =>
    have h1 := ih (fun z hz => h z (List.mem_cons_of_mem _ hz))
    have h2 := h s List.mem_cons_self
    show 6 * cm r + s + 1 < 6 ^ (r.length + 1)
    rw [Nat.pow_succ]
    omega
theorem pow5_le {n : Nat} (h : n ≤ 5) : 5 ^ (n + 1) ≤ 15625 := Nat.le_trans (Nat.pow_le_pow_right (by decide) (Nat.succ_le_succ h)) (by decide)
theorem pow6_le {n : Nat} (h : n ≤ 5) : 6 ^ n ≤ 7776 := Nat.le_trans (Nat.pow_le_pow_right (by decide) h) (by decide)
theorem cx_lt {r : List Nat} (h : okr 5 r) : cx r < 3906 := by
  have h1 := cx_len h.2
  have h2 := pow5_le h.1
  omega
theorem cm_lt {r : List Nat} (h : okr 5 r) : cm r < 7776 := by
  have h1 := cm_len h.2
  have h2 := pow6_le h.1
  omega
theorem cx_inj : ∀ {r r2 : List Nat}, (∀ s ∈ r, s < 5) → (∀ s ∈ r2, s < 5) → cx r = cx r2 → r = r2 := by
  intro r
  induction r with
  | nil =>
    intro r2 _ _ he
    cases r2 with
    | nil => rfl
    | cons s2 r2 => simp [cx] at he
  | cons s r ih =>
    intro r2 h1 h2 he
    cases r2 with
    | nil => simp [cx] at he
    | cons s2 r2 =>
      have a1 := h1 s List.mem_cons_self
      have a2 := h2 s2 List.mem_cons_self
      simp only [cx] at he
      have e1 : s = s2 := by omega
      have e2 : cx r = cx r2 := by omega
      rw [e1, ih (fun z hz => h1 z (List.mem_cons_of_mem _ hz)) (fun z hz => h2 z (List.mem_cons_of_mem _ hz)) e2]
theorem cm_inj : ∀ {r r2 : List Nat}, (∀ s ∈ r, s < 5) → (∀ s ∈ r2, s < 5) → cm r = cm r2 → r = r2 := by
  intro r
  induction r with
  | nil =>
    intro r2 _ _ he
    cases r2 with
    | nil => rfl
    | cons s2 r2 => simp [cm] at he
  | cons s r ih =>
    intro r2 h1 h2 he
    cases r2 with
    | nil => simp [cm] at he
    | cons s2 r2 =>
      have a1 := h1 s List.mem_cons_self
      have a2 := h2 s2 List.mem_cons_self
      simp only [cm] at he
      have e1 : s = s2 := by omega
      have e2 : cm r = cm r2 := by omega
      rw [e1, ih (fun z hz => h1 z (List.mem_cons_of_mem _ hz)) (fun z hz => h2 z (List.mem_cons_of_mem _ hz)) e2]
/-- the row of a number: as class and as reference read it -/
def dx : Nat → Nat → List Nat
  | 0, _ => []
  | n + 1, x => if x = 0 then [] else (x - 1) % 5 :: dx n ((x - 1) / 5)
theorem dx_lt (n x : Nat) : ∀ s ∈ dx n x, s < 5 := by
  induction n generalizing x with
  | zero => intro s h; exact absurd h List.not_mem_nil
  | succ n ih =>
    intro s h
    unfold dx at h
    split at h
    · exact absurd h List.not_mem_nil
    · rcases List.mem_cons.mp h with rfl | h
      · exact Nat.mod_lt _ (by decide)
      · exact ih _ s h
theorem dx_len (n x : Nat) : (dx n x).length ≤ n := by
  induction n generalizing x with
  | zero => exact Nat.le_refl _
  | succ n ih =>
    unfold dx
    split
    · exact Nat.zero_le _
    · have := ih ((x - 1) / 5)
      simp only [List.length_cons]
      omega
theorem pow5_4 (n : Nat) : 5 ^ n % 4 = 1 := by
  induction n with
  | zero => rfl
  | succ n ih => rw [Nat.pow_succ]; omega
theorem cx_dx : ∀ (n x : Nat), 4 * x + 5 ≤ 5 ^ (n + 1) → cx (dx n x) = x := by
  intro n
  induction n with
  | zero =>
    intro x hx
    have : x = 0 := by
      have e : 5 ^ (0 + 1) = 5 := by decide
      omega
    subst this
    rfl
  | succ n ih =>
    intro x hx
    unfold dx
    split
    · rename_i h; rw [h]; rfl
    · rename_i h
      have e : 5 ^ (n + 1 + 1) = 5 * 5 ^ (n + 1) := by rw [Nat.pow_succ, Nat.mul_comm]
      have e4 := pow5_4 (n + 1)
      have h1 := ih ((x - 1) / 5) (by omega)
      show 5 * cx (dx n ((x - 1) / 5)) + (x - 1) % 5 + 1 = x
      rw [h1]
      omega
theorem dx_cx {r : List Nat} (h : okr 5 r) : dx 5 (cx r) = r := by
  have h1 := cx_lt h
  have h2 : 4 * cx r + 5 ≤ 5 ^ (5 + 1) := by
    have e : 5 ^ (5 + 1) = 15625 := by decide
    omega
  exact cx_inj (dx_lt _ _) h.2 (cx_dx 5 _ h2)
theorem dx_ok {x : Nat} : okr 5 (dx 5 x) := ⟨dx_len 5 x, dx_lt 5 x⟩
theorem cx_dx5 {x : Nat} (h : x < 3906) : cx (dx 5 x) = x := cx_dx 5 x (by
  have e : 5 ^ (5 + 1) = 15625 := by decide
  omega)
/-! ints of numbers -/
theorem i_top {c s : Nat} (h : 5 * c + s + 1 < 2 ^ 31) (hs : s < 5) : (nI (5 * c + s + 1) - 1) - (nI (5 * c + s + 1) - 1) / 5 * 5 = nI s := by
  have e1 : nI (5 * c + s + 1) - 1 = nI (5 * c + s) := nI_pred _
  rw [e1]
  have e2 := pk_rem (a := 5 * c + s) (d := 5) (by omega) (by decide) (by decide)
  rw [show (5 * c + s) % 5 = s by omega] at e2
  exact e2
theorem i_below {c s : Nat} (h : 5 * c + s + 1 < 2 ^ 31) (hs : s < 5) : (nI (5 * c + s + 1) - 1) / 5 = nI c := by
  have e1 : nI (5 * c + s + 1) - 1 = nI (5 * c + s) := nI_pred _
  rw [e1]
  have e2 := pk_div (a := 5 * c + s) (d := 5) (by omega) (by decide) (by decide)
  rw [show (5 * c + s) / 5 = c by omega] at e2
  exact e2
theorem i_with (c s : Nat) : ((nI c * 5) + nI s) + 1 = nI (5 * c + s + 1) := by
  have e1 : nI c * 5 = nI (c * 5) := pk_mul c 5
  rw [e1, nI_add, nI_1, Nat.mul_comm]
theorem nI_le0 {n : Nat} (h : n < 2 ^ 31) : nI n ≤ 0 ↔ n = 0 := by
  have e := nI_leI (a := n) (b := 0) h (by decide)
  have e2 : nI 0 = 0 := rfl
  rw [e2] at e
  rw [e]; omega
/-- the uppermost of a row as an int; -5 if there is none -/
def tpI : List Nat → Int32
  | [] => -5
  | s :: _ => nI s
/-! bits -/
theorem i_or (a b : Nat) : nI a ||| nI b = nI (a ||| b) := by
  apply Int32.toBitVec_inj.1
  show BitVec.ofNat 32 a ||| BitVec.ofNat 32 b = BitVec.ofNat 32 (a ||| b)
  apply BitVec.eq_of_getLsbD_eq
  intro i hi
  simp [hi]
theorem i_and (a b : Nat) : nI a &&& nI b = nI (a &&& b) := by
  apply Int32.toBitVec_inj.1
  show BitVec.ofNat 32 a &&& BitVec.ofNat 32 b = BitVec.ofNat 32 (a &&& b)
  apply BitVec.eq_of_getLsbD_eq
  intro i hi
  simp [hi]
theorem i_pow {k : Nat} (hk : k < 31) : (1 : Int32) <<< (nI k &&& 31) = nI (2 ^ k) := by
  have h : ∀ k : Nat, k < 31 → (1 : Int32) <<< (nI k &&& 31) = nI (2 ^ k) := by decide +kernel
  exact h k hk
theorem i_sh {k : Nat} (hk : k < 32) : ((nI k &&& 31).toBitVec.smod 32).toNat = k := by
  have h : ∀ k : Nat, k < 32 → ((nI k &&& 31).toBitVec.smod 32).toNat = k := by decide +kernel
  exact h k hk
theorem i_bit {n k : Nat} (hn : n < 2 ^ 31) (hk : k < 31) : ((nI n >>> (nI k &&& 31)) &&& 1) = nI (n / 2 ^ k % 2) := by
  rw [pk_shrN hn (nI k &&& 31) k (i_sh (by omega))]
  have h1 : n / 2 ^ k ≤ n := Nat.div_le_self _ _
  exact pk_andN (m := 1) (by omega) 1 (by decide)
theorem i_bit1 {n k : Nat} (hn : n < 2 ^ 31) (hk : k < 31) : ((nI n >>> (nI k &&& 31)) &&& 1) = 1 ↔ n.testBit k = true := by
  rw [i_bit hn hk, Nat.testBit_eq_decide_div_mod_eq, decide_eq_true_eq]
  exact nI_eq (a := n / 2 ^ k % 2) (b := 1) (by omega) (by decide)
theorem i_bit0 {n k : Nat} (hn : n < 2 ^ 31) (hk : k < 31) : ((nI n >>> (nI k &&& 31)) &&& 1) = 0 ↔ n.testBit k = false := by
  rw [i_bit hn hk, Nat.testBit_eq_decide_div_mod_eq, decide_eq_false_iff_not]
  have h := nI_eq (a := n / 2 ^ k % 2) (b := 0) (by omega) (by decide)
  have e : nI 0 = 0 := rfl
  rw [e] at h
  rw [h]; omega

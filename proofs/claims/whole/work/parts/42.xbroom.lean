/-! the broom -/
def wonS (c : Nat → Nat → Nat) (set : Nat) (r : List Nat) (t : Bool) (g : List Nat → Bool) (k : Nat) : Bool :=
  match af c set r k with
  | some q => g q == t
  | none => false
/-- whether the effect is brought about, n turns left -/
def won (c : Nat → Nat → Nat) (a b x : Nat) : Nat → Bool → List Nat → Bool
  | 0, _, r => (wk c r).testBit x
  | n + 1, t, r => if exN (wonS c (2 ^ (if t = true then a else b)) r t (won c a b x n (!t))) 8 = true then t else !t
/-- the first word that brings it about; none: -9 -/
def fstW (f : Nat → Bool) (n : Nat) : Nat → Int32
  | 0 => -9
  | m + 1 => if f (n - (m + 1)) = true then nI (n - (m + 1)) else fstW f n m
theorem oI_neg {o : Option (List Nat)} (h : o = none) : oI o < 0 := by rw [h]; decide
theorem oI_nn {o : Option (List Nat)} {q : List Nat} (h : o = some q) (hq : okr 5 q) : ¬ oI o < 0 := by
  rw [h]
  have := cx_lt hq
  exact nI_pos (by omega)
theorem af_ok7 {c : Nat → Nat → Nat} {set x : Nat} {r q : List Nat} (hr : okr (c 0 0) r) (hx : x ≤ 7) (h : af c set r x = some q) : okr (c 0 0) q := by
  by_cases h7 : x = 7
  · subst h7
    unfold af at h
    rw [if_neg (by decide), if_neg (by decide), if_neg (by decide)] at h
    rw [← Option.some.inj h]
    exact hr
  · exact af_ok hr (by omega) h
section XBR
variable {d p : Nat} {c : Nat → Nat → Nat} {w : Wd}
theorem b2i_inj {a b : Bool} : b2i a = b2i b ↔ a = b := by cases a <;> cases b <;> simp [b2i]
theorem l_isWon {n a b x set : Nat} {t : Bool} {r : List Nat} (hp : scp p) (X : XS p c w) (hc : okc c) (hs : set < 2 ^ 31) (hr : okr (c 0 0) r) (hn : n < 4)
    (ih : ∀ q : List Nat, okr (c 0 0) q → sem (d + 5 + n) 0 [.ref p, .int (nI (cx q)), .int (nI a), .int (nI b), .int (nI x), .int (nI n), .int (b2i (!t))] w = some (some (.int (b2i (won c a b x n (!t) q))), w)) :
    ∀ (m k : Nat) (v9 : Value), m + k = 8 → exN (wonS c set r t (won c a b x n (!t))) k = false → runs (T_X0_isWon (sem (d + 5 + n))) (48, [.ref p, .int (nI (cx r)), .int (nI a), .int (nI b), .int (nI x), .int (nI (n + 1)), .int (b2i t), .int (nI set), .int (nI k), v9], [], w) =
      some (some (.int (b2i (if exN (wonS c set r t (won c a b x n (!t))) 8 = true then t else !t))), w) := by
  intro m
  induction m with
  | zero =>
    intro k v9 hk hf
    have ek : k = 8 := by omega
    subst ek
    rw [hf]
    cases t with
    | true => exact p_X0_isWon_48TT_R hp (by decide) (by decide)
    | false => exact p_X0_isWon_48TF_R hp (by decide) rfl
  | succ m ihm =>
    intro k v9 hk hf
    have h7 : ¬ (7 : Int32) < nI k := nI_nlt (a := 7) (b := k) (by omega) (by decide)
    have e1 := s_after (d := d + 1 + n) (x := k) hp X hc hr hs (by omega)
    rw [show d + 1 + n + 4 = d + 5 + n by omega] at e1
    have go : wonS c set r t (won c a b x n (!t)) k = false → exN (wonS c set r t (won c a b x n (!t))) (k + 1) = false := by
      intro h
      unfold exN
      rw [hf, h]
      rfl
    have e4 : nI (n + 1) - 1 = nI n := nI_pred _
    cases ha : af c set r k with
    | none =>
      rw [ha] at e1
      refine (p_X0_isWon_48FT_L48 hp h7 e1 (oI_neg rfl)).trans ?_
      rw [nI_1]
      exact ihm (k + 1) .null (by omega) (go (by unfold wonS; rw [ha]))
    | some q =>
      rw [ha] at e1
      have hq := af_ok7 hr (by omega) ha
      have e2 := ih q hq
      rw [← e4] at e2
      have e3 := oI_nn (o := some q) rfl (hq.five hc)
      by_cases hw : won c a b x n (!t) q = t
      · have e5 : exN (wonS c set r t (won c a b x n (!t))) 8 = true := exN_iff.mpr ⟨k, by omega, by unfold wonS; rw [ha]; dsimp only; rw [hw]; cases t <;> rfl⟩
        rw [if_pos e5]
        cases t with
        | true => exact p_X0_isWon_48FFTF_R hp h7 e1 e3 (by decide) e2 (by rw [hw]) (Or.inr rfl)
        | false => exact p_X0_isWon_48FFFF_R hp h7 e1 e3 rfl e2 (by rw [hw]) (Or.inl rfl)
      · have e5 : wonS c set r t (won c a b x n (!t)) k = false := by
          unfold wonS
          rw [ha]
          dsimp only
          rw [beq_eq_false_iff_ne]
          exact hw
        cases t with
        | true =>
          refine (p_X0_isWon_48FFTT_L48 hp h7 e1 e3 (by decide) e2 (fun h => hw (b2i_inj.mp h))).trans ?_
          rw [nI_1]
          exact ihm (k + 1) .null (by omega) (go e5)
        | false =>
          refine (p_X0_isWon_48FFFT_L48 hp h7 e1 e3 rfl e2 (fun h => hw (b2i_inj.mp h))).trans ?_
          rw [nI_1]
          exact ihm (k + 1) .null (by omega) (go e5)
theorem s_isWon {a b x : Nat} (hp : scp p) (X : XS p c w) (hc : okc c) (ha : a < 3) (hb : b < 3) (hx : x < 10) : ∀ (n : Nat) (t : Bool) (r : List Nat), n ≤ 4 → okr (c 0 0) r → sem (d + 5 + n) 0 [.ref p, .int (nI (cx r)), .int (nI a), .int (nI b), .int (nI x), .int (nI n), .int (b2i t)] w = some (some (.int (b2i (won c a b x n t r))), w) := by
  intro n
  induction n with
  | zero =>
    intro t r hn hr
    have e1 := s_worksOf (d := d + 1) hp X hc hr
    have h1 := wk_lt hc hr.2
    cases hbt : (wk c r).testBit x with
    | true =>
      show _ = some (some (Value.int (b2i ((wk c r).testBit x))), w)
      rw [hbt]
      exact e_X0_isWon.trans (p_X0_isWon_0TF_R hp (by decide) e1 ((i_bit1 (by omega) (by omega)).mpr hbt))
    | false =>
      show _ = some (some (Value.int (b2i ((wk c r).testBit x))), w)
      rw [hbt]
      exact e_X0_isWon.trans (p_X0_isWon_0TT_R hp (by decide) e1 (fun h => by rw [(i_bit1 (by omega) (by omega)).mp h] at hbt; exact absurd hbt (by decide)))
  | succ n ih =>
    intro t r hn hr
    have k1 : ¬ nI (n + 1) ≤ 0 := nI_nle (by omega) (by omega)
    have k2 : nI (n + 1) ≤ 4 := nI_le (b := 4) (by omega) (by decide)
    have la : 2 ^ a < 2 ^ 31 := Nat.pow_lt_pow_right (by decide) (by omega)
    have lb : 2 ^ b < 2 ^ 31 := Nat.pow_lt_pow_right (by decide) (by omega)
    refine e_X0_isWon.trans ?_
    cases t with
    | true =>
      refine (p_X0_isWon_0FTF_L48 hp k1 k2 (by decide)).trans ?_
      rw [i_pow (k := a) (by omega)]
      exact l_isWon (d := d) (n := n) (t := true) (a := a) (b := b) (x := x) hp X hc la hr (by omega) (fun q hq => ih false q (by omega) hq) 8 0 _ (by omega) rfl
    | false =>
      refine (p_X0_isWon_0FTT_L48 hp k1 k2 rfl).trans ?_
      rw [i_pow (k := b) (by omega)]
      exact l_isWon (d := d) (n := n) (t := false) (a := a) (b := b) (x := x) hp X hc lb hr (by omega) (fun q hq => ih true q (by omega) hq) 8 0 _ (by omega) rfl
/-- the word that a begins with -/
def fstB (c : Nat → Nat → Nat) (a b x n : Nat) (r : List Nat) (k : Nat) : Bool := wonS c (2 ^ a) r true (won c a b x n false) k
theorem l_firstWord {a b x n : Nat} {r : List Nat} (hp : scp p) (X : XS p c w) (hc : okc c) (ha : a < 3) (hb : b < 3) (hx : x < 10) (hn : n < 4) (hr : okr (c 0 0) r) : ∀ (m k : Nat) (v7 : Value), m + k = 8 → runs (T_X0_firstWord (sem (d + 5 + n))) (11, [.ref p, .int (nI (cx r)), .int (nI a), .int (nI b), .int (nI x), .int (nI (n + 1)), .int (nI k), v7], [], w) = some (some (.int (fstW (fstB c a b x n r) 8 m)), w) := by
  have la : 2 ^ a < 2 ^ 31 := Nat.pow_lt_pow_right (by decide) (by omega)
  intro m
  induction m with
  | zero =>
    intro k v7 hk
    have ek : k = 8 := by omega
    subst ek
    exact p_X0_firstWord_11T_R hp (by decide)
  | succ m ih =>
    intro k v7 hk
    have h7 : ¬ (7 : Int32) < nI k := nI_nlt (a := 7) (b := k) (by omega) (by decide)
    have e1 := s_after (d := d + 1 + n) (x := k) hp X hc hr la (by omega)
    rw [show d + 1 + n + 4 = d + 5 + n by omega, ← i_pow (k := a) (by omega)] at e1
    have e4 : nI (n + 1) - 1 = nI n := nI_pred _
    unfold fstW
    rw [show 8 - (m + 1) = k by omega]
    cases haf : af c (2 ^ a) r k with
    | none =>
      rw [haf] at e1
      have e5 : fstB c a b x n r k = false := by unfold fstB wonS; rw [haf]
      rw [e5, if_neg (by decide)]
      refine (p_X0_firstWord_11FT_L11 hp h7 e1 (oI_neg rfl)).trans ?_
      rw [nI_1]
      exact ih (k + 1) .null (by omega)
    | some q =>
      rw [haf] at e1
      have hq := af_ok7 hr (by omega) haf
      have e2 := s_isWon (d := d) hp X hc ha hb hx n false q (by omega) hq
      rw [← e4] at e2
      have e3 := oI_nn (o := some q) rfl (hq.five hc)
      have e5 : fstB c a b x n r k = won c a b x n false q := by unfold fstB wonS; rw [haf]; simp
      rw [e5]
      cases hw : won c a b x n false q with
      | true =>
        rw [hw] at e2
        rw [if_pos rfl]
        exact p_X0_firstWord_11FFF_R hp h7 e1 e3 e2 (by decide)
      | false =>
        rw [hw] at e2
        rw [if_neg (by decide)]
        refine (p_X0_firstWord_11FFT_L11 hp h7 e1 e3 e2 rfl).trans ?_
        rw [nI_1]
        exact ih (k + 1) .null (by omega)
theorem s_firstWord {a b x n : Nat} {r : List Nat} (hp : scp p) (X : XS p c w) (hc : okc c) (ha : a < 3) (hb : b < 3) (hx : x < 10) (hn : n < 4) (hr : okr (c 0 0) r) : sem (d + 6 + n) 1 [.ref p, .int (nI (cx r)), .int (nI a), .int (nI b), .int (nI x), .int (nI (n + 1))] w = some (some (.int (fstW (fstB c a b x n r) 8 8)), w) := by
  rw [show d + 6 + n = d + 5 + n + 1 by omega]
  exact e_X0_firstWord.trans ((p_X0_firstWord_0T_L11 hp (nI_lt (a := 0) (by omega) (by omega))).trans (l_firstWord hp X hc ha hb hx hn hr 8 0 _ (by omega)))
theorem s_firstWord0 {r : List Nat} {x1 x2 x3 x4 : Int32} (hp : scp p) : sem (d + 1) 1 [.ref p, .int x1, .int x2, .int x3, .int x4, .int 0] w = some (some (.int (-9)), w) :=
  e_X0_firstWord.trans (p_X0_firstWord_0F_R hp (by decide))
end XBR

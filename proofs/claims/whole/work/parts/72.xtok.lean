/-! the text and its tokens; the class's Reader: one token -/
def isBl (b : Nat) : Bool := decide (b = 32)
def isDg (b : Nat) : Bool := decide (48 ≤ b ∧ b ≤ 57)
def isLt (b : Nat) : Bool := decide (97 ≤ b ∧ b ≤ 122)
/-- the end of a run of bytes -/
def rnE (P : Nat → Bool) (bt : Nat → Nat) : Nat → Nat → Nat
  | 0, i => i
  | m + 1, i => if P (bt i) = true then rnE P bt m (i + 1) else i
def rE (P : Nat → Bool) (bt : Nat → Nat) (n i : Nat) : Nat := rnE P bt (n - i) i
theorem rE_ge {P : Nat → Bool} {bt : Nat → Nat} {n i : Nat} (h : n ≤ i) : rE P bt n i = i := by
  unfold rE
  rw [show n - i = 0 by omega]
  rfl
theorem rE_t {P : Nat → Bool} {bt : Nat → Nat} {n i : Nat} (h : i < n) (hp : P (bt i) = true) : rE P bt n i = rE P bt n (i + 1) := by
  unfold rE
  rw [show n - i = (n - (i + 1)) + 1 by omega]
  exact if_pos hp
theorem rE_f {P : Nat → Bool} {bt : Nat → Nat} {n i : Nat} (h : i < n) (hp : P (bt i) = false) : rE P bt n i = i := by
  unfold rE
  rw [show n - i = (n - (i + 1)) + 1 by omega]
  exact if_neg (by rw [hp]; decide)
theorem rE_in {P : Nat → Bool} {bt : Nat → Nat} {n : Nat} : ∀ (m i : Nat), m + i = n → i ≤ rE P bt n i ∧ rE P bt n i ≤ n ∧ (∀ j, i ≤ j → j < rE P bt n i → P (bt j) = true) ∧ (rE P bt n i < n → P (bt (rE P bt n i)) = false) := by
  intro m
  induction m with
  | zero =>
    intro i hi
    rw [rE_ge (by omega)]
    exact ⟨Nat.le_refl _, by omega, fun j h1 h2 => by omega, fun h => by omega⟩
  | succ m ih =>
    intro i hi
    cases hp : P (bt i) with
    | false =>
      rw [rE_f (by omega) hp]
      exact ⟨Nat.le_refl _, by omega, fun j h1 h2 => by omega, fun _ => hp⟩
    | true =>
      rw [rE_t (by omega) hp]
      obtain ⟨h1, h2, h3, h4⟩ := ih (i + 1) (by omega)
      refine ⟨by omega, h2, fun j g1 g2 => ?_, h4⟩
      by_cases e : j = i
      · rw [e]; exact hp
      · exact h3 j (by omega) g2
/-- the value of a row of digits, held at 100 -/
def vaE (bt : Nat → Nat) : Nat → Nat → Nat → Nat
  | 0, _, v => v
  | m + 1, i, v => if isDg (bt i) = true then vaE bt m (i + 1) (min (v * 10 + (bt i - 48)) 100) else v
def vE (bt : Nat → Nat) (n i v : Nat) : Nat := vaE bt (n - i) i v
theorem vE_ge {bt : Nat → Nat} {n i v : Nat} (h : n ≤ i) : vE bt n i v = v := by
  unfold vE
  rw [show n - i = 0 by omega]
  rfl
theorem vE_t {bt : Nat → Nat} {n i v : Nat} (h : i < n) (hp : isDg (bt i) = true) : vE bt n i v = vE bt n (i + 1) (min (v * 10 + (bt i - 48)) 100) := by
  unfold vE
  rw [show n - i = (n - (i + 1)) + 1 by omega]
  exact if_pos hp
theorem vE_f {bt : Nat → Nat} {n i v : Nat} (h : i < n) (hp : isDg (bt i) = false) : vE bt n i v = v := by
  unfold vE
  rw [show n - i = (n - (i + 1)) + 1 by omega]
  exact if_neg (by rw [hp]; decide)
/-- the words, by their numbers: 4 spell .. 9 hum -/
def wrd (j : Nat) : List Nat := [[115, 112, 101, 108, 108], [116, 104, 105, 110, 103], [112, 117, 112, 105, 108], [115, 119, 97, 112], [99, 111, 112, 121], [104, 117, 109]].getD j []
def wdK (l : List Nat) : Nat := if l = wrd 0 then 4 else if l = wrd 1 then 5 else if l = wrd 2 then 6 else if l = wrd 3 then 7 else if l = wrd 4 then 8 else if l = wrd 5 then 9 else 0
def wl (bt : Nat → Nat) (s e : Nat) : List Nat := (List.range (e - s)).map (fun k => bt (s + k))
/-- a token: where it begins, ends, its sort, its value -/
def tkS (bt : Nat → Nat) (n i : Nat) : Nat := rE isBl bt n i
def tqE (bt : Nat → Nat) (n s : Nat) : Nat := if n ≤ s then s else if isDg (bt s) = true then rE isDg bt n s else if isLt (bt s) = true then rE isLt bt n s else s + 1
def dgK (bt : Nat → Nat) (s e v : Nat) : Nat := if 99 < v ∨ (bt s = 48 ∧ s + 1 < e) then 0 else 3
def tqK (bt : Nat → Nat) (n s : Nat) : Nat := if n ≤ s then 1 else if isDg (bt s) = true then dgK bt s (rE isDg bt n s) (vE bt n s 0) else if isLt (bt s) = true then wdK (wl bt s (rE isLt bt n s)) else if bt s = 59 then 2 else 0
def tkE (bt : Nat → Nat) (n i : Nat) : Nat := tqE bt n (tkS bt n i)
def tkK (bt : Nat → Nat) (n i : Nat) : Nat := tqK bt n (tkS bt n i)
def tkV (bt : Nat → Nat) (n i : Nat) : Nat := vE bt n (tkS bt n i) 0
/-- the text as the class holds it -/
def XT (bt : Nat → Nat) (n : Nat) (w : Wd) : Prop := w.1 1 1 = nI n ∧ ∀ i, i < n → w.1 2 i = nI (bt i)
def okt (bt : Nat → Nat) (n : Nat) : Prop := n ≤ 300 ∧ ∀ i, i < n → bt i < 256
/-- nothing but the token changes -/
def tkf (w w2 : Wd) : Prop := (∀ q, q ≠ 1 → w2.1 q = w.1 q) ∧ (∀ j, j ≠ 2 → j ≠ 3 → j ≠ 4 → j ≠ 5 → w2.1 1 j = w.1 1 j) ∧ w2.2 = w.2
theorem tkf.refl (w : Wd) : tkf w w := ⟨fun _ _ => rfl, fun _ _ _ _ _ => rfl, rfl⟩
theorem tkf.trans {w w2 w3 : Wd} (a : tkf w w2) (b : tkf w2 w3) : tkf w w3 := ⟨fun q h => (b.1 q h).trans (a.1 q h), fun j h1 h2 h3 h4 => (b.2.1 j h1 h2 h3 h4).trans (a.2.1 j h1 h2 h3 h4), b.2.2.trans a.2.2⟩
theorem tkf.up (w : Wd) {k : Nat} (x : Int32) (hk : k = 2 ∨ k = 3 ∨ k = 4 ∨ k = 5) : tkf w (updI w 1 k x) := ⟨fun q h => if_neg h, fun j h1 h2 h3 h4 => rd_k (by omega), rfl⟩
theorem XT.tkf {bt : Nat → Nat} {n : Nat} {w w2 : Wd} (X : XT bt n w) (h : tkf w w2) : XT bt n w2 := by
  unfold XT at *
  rw [h.1 2 (by decide), h.2.1 1 (by decide) (by decide) (by decide) (by decide)]
  exact X
section XTOK
variable {d : Nat} {bt : Nat → Nat} {n : Nat}
theorem s_isDigit {b : Nat} {w : Wd} (hb : b < 2 ^ 31) : sem (d + 1) 36 [.int (nI b)] w = some (some (.int (b2i (isDg b))), w) := by
  unfold isDg
  by_cases h1 : 48 ≤ b
  · have k1 : ¬ nI b < 48 := nI_nlt (a := b) (b := 48) h1 hb
    by_cases h2 : b ≤ 57
    · rw [b2i_t (decide_eq_true ⟨h1, h2⟩)]
      exact e_X3_isDigit.trans (p_X3_isDigit_0FF_R k1 (nI_nlt (a := 57) (b := b) h2 (by decide)))
    · rw [b2i_f (decide_eq_false (fun h => h2 h.2))]
      exact e_X3_isDigit.trans (p_X3_isDigit_0FT_R k1 (nI_lt (a := 57) (b := b) (by omega) hb))
  · rw [b2i_f (decide_eq_false (fun h => h1 h.1))]
    exact e_X3_isDigit.trans (p_X3_isDigit_0T_R (nI_lt (a := b) (b := 48) (by omega) (by decide)))
theorem s_isLetter {b : Nat} {w : Wd} (hb : b < 2 ^ 31) : sem (d + 1) 37 [.int (nI b)] w = some (some (.int (b2i (isLt b))), w) := by
  unfold isLt
  by_cases h1 : 97 ≤ b
  · have k1 : ¬ nI b < 97 := nI_nlt (a := b) (b := 97) h1 hb
    by_cases h2 : b ≤ 122
    · rw [b2i_t (decide_eq_true ⟨h1, h2⟩)]
      exact e_X3_isLetter.trans (p_X3_isLetter_0FF_R k1 (nI_nlt (a := 122) (b := b) h2 (by decide)))
    · rw [b2i_f (decide_eq_false (fun h => h2 h.2))]
      exact e_X3_isLetter.trans (p_X3_isLetter_0FT_R k1 (nI_lt (a := 122) (b := b) (by omega) hb))
  · rw [b2i_f (decide_eq_false (fun h => h1 h.1))]
    exact e_X3_isLetter.trans (p_X3_isLetter_0T_R (nI_lt (a := b) (b := 97) (by omega) (by decide)))
theorem s_byte {i : Nat} {w : Wd} (X : XT bt n w) (ho : okt bt n) (hi : i < n) : sem (d + 1) 133 [.ref 2, .int (nI i)] w = some (some (.int (nI (bt i))), w) := by
  have h3 := ho.1
  have e := s_at (d := d) (a := 2) (k := i) (w := w) rfl (by show i < 300; omega)
  rw [X.2 i hi] at e
  exact e
theorem l_digits {s : Nat} (ho : okt bt n) (hs : s < n) : ∀ (m i v : Nat) (v1 : Value) (w : Wd), m + i = n → s ≤ i → v ≤ 100 → XT bt n w → w.1 1 4 = nI s → w.1 1 2 = nI i → w.1 1 5 = nI v →
    ∃ w2, runs (T_X3_readDigits (sem (d + 1))) (5, [.ref 1, v1], [], w) = some (none, w2) ∧ tkf w w2 ∧ w2.1 1 4 = nI s ∧ w2.1 1 2 = nI (rE isDg bt n i) ∧ w2.1 1 5 = nI (vE bt n i v) ∧ w2.1 1 3 = nI (dgK bt s (rE isDg bt n i) (vE bt n i v)) := by
  have h3 := ho.1
  have hbs := ho.2 s hs
  intro m
  induction m with
  | zero =>
    intro i v v1 w hi hsi hv X W4 W2 W5
    have hin : i = n := by omega
    subst hin
    have k1 : (w.1 1 1) ≤ (w.1 1 2) := by rw [X.1, W2]; exact nI_le (Nat.le_refl _) (by omega)
    have b1 := s_byte (d := d) X ho hs
    rw [← W4] at b1
    rw [rE_ge (Nat.le_refl _), vE_ge (Nat.le_refl _)]
    by_cases h48 : bt s = 48
    · have g48 : nI (bt s) = 48 := by rw [h48]; rfl
      by_cases hpl : i ≤ s + 1
      · have g2 : (w.1 1 2) ≤ (w.1 1 4) + 1 := by rw [W2, W4, nI_1]; exact nI_le hpl (by omega)
        by_cases hvv : 99 < v
        · refine ⟨_, p_X3_readDigits_5TFTT_R k1 b1 g48 g2 (by rw [W5]; exact nI_lt (a := 99) hvv (by omega)), tkf.up w _ (by omega), ?_, ?_, ?_, ?_⟩
          · rw [rd_k (by decide)]; exact W4
          · rw [rd_k (by decide)]; exact W2
          · rw [rd_k (by decide)]; exact W5
          · rw [rd_e]; unfold dgK; rw [if_pos (Or.inl hvv)]; rfl
        · refine ⟨_, p_X3_readDigits_5TFTFT_R k1 b1 g48 g2 (by rw [W5]; exact nI_nlt (a := 99) (b := v) (by omega) (by decide)) rfl, tkf.up w _ (by omega), ?_, ?_, ?_, ?_⟩
          · rw [rd_k (by decide)]; exact W4
          · rw [rd_k (by decide)]; exact W2
          · rw [rd_k (by decide)]; exact W5
          · rw [rd_e]; unfold dgK; rw [if_neg (by omega)]; rfl
      · have g2 : ¬ (w.1 1 2) ≤ (w.1 1 4) + 1 := by rw [W2, W4, nI_1]; exact nI_ge (by omega) (by omega)
        have e0 : dgK bt s i v = 0 := by unfold dgK; rw [if_pos (Or.inr ⟨h48, by omega⟩)]
        rw [e0]
        by_cases hvv : 99 < v
        · refine ⟨_, p_X3_readDigits_5TFFT_R k1 b1 g48 g2 (by rw [W5]; exact nI_lt (a := 99) hvv (by omega)), tkf.up w _ (by omega), ?_, ?_, ?_, rd_e⟩
          · rw [rd_k (by decide)]; exact W4
          · rw [rd_k (by decide)]; exact W2
          · rw [rd_k (by decide)]; exact W5
        · refine ⟨_, p_X3_readDigits_5TFFFF_R k1 b1 g48 g2 (by rw [W5]; exact nI_nlt (a := 99) (b := v) (by omega) (by decide)) (by decide), tkf.up w _ (by omega), ?_, ?_, ?_, rd_e⟩
          · rw [rd_k (by decide)]; exact W4
          · rw [rd_k (by decide)]; exact W2
          · rw [rd_k (by decide)]; exact W5
    · have g48 : ¬ nI (bt s) = 48 := fun h => h48 ((nI_eq (b := 48) (by omega) (by decide)).mp h)
      by_cases hvv : 99 < v
      · refine ⟨_, p_X3_readDigits_5TTT_R k1 b1 g48 (by rw [W5]; exact nI_lt (a := 99) hvv (by omega)), tkf.up w _ (by omega), ?_, ?_, ?_, ?_⟩
        · rw [rd_k (by decide)]; exact W4
        · rw [rd_k (by decide)]; exact W2
        · rw [rd_k (by decide)]; exact W5
        · rw [rd_e]; unfold dgK; rw [if_pos (Or.inl hvv)]; rfl
      · refine ⟨_, p_X3_readDigits_5TTFT_R k1 b1 g48 (by rw [W5]; exact nI_nlt (a := 99) (b := v) (by omega) (by decide)) rfl, tkf.up w _ (by omega), ?_, ?_, ?_, ?_⟩
        · rw [rd_k (by decide)]; exact W4
        · rw [rd_k (by decide)]; exact W2
        · rw [rd_k (by decide)]; exact W5
        · rw [rd_e]; unfold dgK; rw [if_neg (by omega)]; rfl
  | succ m ih =>
    intro i v v1 w hi hsi hv X W4 W2 W5
    have hin : i < n := by omega
    have hbi := ho.2 i hin
    have k1 : ¬ (w.1 1 1) ≤ (w.1 1 2) := by rw [X.1, W2]; exact nI_ge (by omega) (by omega)
    have bi := s_byte (d := d) X ho hin
    rw [← W2] at bi
    have dg := s_isDigit (d := d) (b := bt i) (w := w) (by omega)
    have b1 := s_byte (d := d) X ho hs
    rw [← W4] at b1
    cases hd : isDg (bt i) with
    | true =>
      rw [hd] at dg
      have hr := of_decide_eq_true hd
      rw [rE_t hin hd, vE_t hin hd]
      have hv2 : (if (100 : Int32) < ((w.1 1 5) * 10) + nI (bt i) - 48 then 100 else ((w.1 1 5) * 10) + nI (bt i) - 48) = nI (min (v * 10 + (bt i - 48)) 100) := by
        have e1 : ((w.1 1 5) * 10) + nI (bt i) - 48 = nI (v * 10 + (bt i - 48)) := by
          rw [W5]
          have e2 : nI v * 10 = nI (v * 10) := pk_mul v 10
          have e3 : nI (v * 10 + bt i) - nI 48 = nI (v * 10 + bt i - 48) := pk_sub (by omega)
          rw [e2, nI_add]
          refine e3.trans ?_
          rw [show v * 10 + bt i - 48 = v * 10 + (bt i - 48) by omega]
        rw [e1]
        by_cases hc : 100 < v * 10 + (bt i - 48)
        · have c1 : (100 : Int32) < nI (v * 10 + (bt i - 48)) := nI_lt (a := 100) hc (by omega)
          rw [if_pos c1, Nat.min_eq_right (by omega)]
          rfl
        · have c1 : ¬ (100 : Int32) < nI (v * 10 + (bt i - 48)) := nI_nlt (a := 100) (b := v * 10 + (bt i - 48)) (by omega) (by decide)
          rw [if_neg c1, Nat.min_eq_left (by omega)]
      have t := p_X3_readDigits_5FF_L5 (v1 := v1) k1 bi dg (by decide) bi
      rw [hv2, W2, nI_1] at t
      have f1 : tkf w (updI (updI w 1 5 (nI (min (v * 10 + (bt i - 48)) 100))) 1 2 (nI (i + 1))) := (tkf.up w _ (by omega)).trans (tkf.up _ _ (by omega))
      obtain ⟨w2, g1, g2, g3⟩ := ih (i + 1) (min (v * 10 + (bt i - 48)) 100) .null _ (by omega) (by omega) (Nat.min_le_right _ _) (X.tkf f1) (by rw [rd_k (by decide), rd_k (by decide)]; exact W4) rd_e (by rw [rd_k (by decide), rd_e])
      exact ⟨w2, t.trans g1, f1.trans g2, g3⟩
    | false =>
      rw [hd] at dg
      rw [rE_f hin hd, vE_f hin hd]
      by_cases h48 : bt s = 48
      · have g48 : nI (bt s) = 48 := by rw [h48]; rfl
        by_cases hpl : i ≤ s + 1
        · have g2 : (w.1 1 2) ≤ (w.1 1 4) + 1 := by rw [W2, W4, nI_1]; exact nI_le hpl (by omega)
          by_cases hvv : 99 < v
          · refine ⟨_, p_X3_readDigits_5FTFTT_R k1 bi dg rfl b1 g48 g2 (by rw [W5]; exact nI_lt (a := 99) hvv (by omega)), tkf.up w _ (by omega), ?_, ?_, ?_, ?_⟩
            · rw [rd_k (by decide)]; exact W4
            · rw [rd_k (by decide)]; exact W2
            · rw [rd_k (by decide)]; exact W5
            · rw [rd_e]; unfold dgK; rw [if_pos (Or.inl hvv)]; rfl
          · refine ⟨_, p_X3_readDigits_5FTFTFT_R k1 bi dg rfl b1 g48 g2 (by rw [W5]; exact nI_nlt (a := 99) (b := v) (by omega) (by decide)) rfl, tkf.up w _ (by omega), ?_, ?_, ?_, ?_⟩
            · rw [rd_k (by decide)]; exact W4
            · rw [rd_k (by decide)]; exact W2
            · rw [rd_k (by decide)]; exact W5
            · rw [rd_e]; unfold dgK; rw [if_neg (by omega)]; rfl
        · have g2 : ¬ (w.1 1 2) ≤ (w.1 1 4) + 1 := by rw [W2, W4, nI_1]; exact nI_ge (by omega) (by omega)
          have e0 : dgK bt s i v = 0 := by unfold dgK; rw [if_pos (Or.inr ⟨h48, by omega⟩)]
          rw [e0]
          by_cases hvv : 99 < v
          · refine ⟨_, p_X3_readDigits_5FTFFT_R k1 bi dg rfl b1 g48 g2 (by rw [W5]; exact nI_lt (a := 99) hvv (by omega)), tkf.up w _ (by omega), ?_, ?_, ?_, rd_e⟩
            · rw [rd_k (by decide)]; exact W4
            · rw [rd_k (by decide)]; exact W2
            · rw [rd_k (by decide)]; exact W5
          · refine ⟨_, p_X3_readDigits_5FTFFFF_R k1 bi dg rfl b1 g48 g2 (by rw [W5]; exact nI_nlt (a := 99) (b := v) (by omega) (by decide)) (by decide), tkf.up w _ (by omega), ?_, ?_, ?_, rd_e⟩
            · rw [rd_k (by decide)]; exact W4
            · rw [rd_k (by decide)]; exact W2
            · rw [rd_k (by decide)]; exact W5
      · have g48 : ¬ nI (bt s) = 48 := fun h => h48 ((nI_eq (b := 48) (by omega) (by decide)).mp h)
        by_cases hvv : 99 < v
        · refine ⟨_, p_X3_readDigits_5FTTT_R k1 bi dg rfl b1 g48 (by rw [W5]; exact nI_lt (a := 99) hvv (by omega)), tkf.up w _ (by omega), ?_, ?_, ?_, ?_⟩
          · rw [rd_k (by decide)]; exact W4
          · rw [rd_k (by decide)]; exact W2
          · rw [rd_k (by decide)]; exact W5
          · rw [rd_e]; unfold dgK; rw [if_pos (Or.inl hvv)]; rfl
        · refine ⟨_, p_X3_readDigits_5FTTFT_R k1 bi dg rfl b1 g48 (by rw [W5]; exact nI_nlt (a := 99) (b := v) (by omega) (by decide)) rfl, tkf.up w _ (by omega), ?_, ?_, ?_, ?_⟩
          · rw [rd_k (by decide)]; exact W4
          · rw [rd_k (by decide)]; exact W2
          · rw [rd_k (by decide)]; exact W5
          · rw [rd_e]; unfold dgK; rw [if_neg (by omega)]; rfl
theorem s_readDigits {s : Nat} {w : Wd} (ho : okt bt n) (hs : s < n) (X : XT bt n w) (W4 : w.1 1 4 = nI s) (W2 : w.1 1 2 = nI s) :
    ∃ w2, sem (d + 2) 33 [.ref 1] w = some (none, w2) ∧ tkf w w2 ∧ w2.1 1 4 = nI s ∧ w2.1 1 2 = nI (rE isDg bt n s) ∧ w2.1 1 5 = nI (vE bt n s 0) ∧ w2.1 1 3 = nI (dgK bt s (rE isDg bt n s) (vE bt n s 0)) := by
  have f1 := tkf.up w (k := 5) 0 (by omega)
  obtain ⟨w2, g1, g2, g3⟩ := l_digits (d := d) ho hs (n - s) s 0 .null (updI w 1 5 0) (by omega) (Nat.le_refl _) (by omega) (X.tkf f1) (by rw [rd_k (by decide)]; exact W4) (by rw [rd_k (by decide)]; exact W2) rd_e
  exact ⟨w2, e_X3_readDigits.trans (p_X3_readDigits_0_L5.trans g1), f1.trans g2, g3⟩
end XTOK

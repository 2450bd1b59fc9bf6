/-! broom agrees: the stack -/
def pfr (w w1 : Wd) : Prop := (∀ q, q ≠ 34 → q ≠ 48 → q ≠ 50 → q ≠ 51 → q ≠ 52 → w1.1 q = w.1 q) ∧ (∀ j, j ≠ 30 → w1.1 34 j = w.1 34 j) ∧ w1.2 = w.2
def pst (k : Nat) (w w1 : Wd) : Prop := ∀ j, j < k → w1.1 50 j = w.1 50 j ∧ w1.1 51 j = w.1 51 j ∧ w1.1 52 j = w.1 52 j
def pfd (k : Nat) (V : Int32) (w w1 : Wd) : Prop := ∀ j, j < k → w1.1 50 j = w.1 50 j ∧ w1.1 51 j = w.1 51 j ∧ w1.1 52 j = if j + 1 = k then fo j (w.1 51 j) (w.1 52 j) V else w.1 52 j
theorem pfr.refl (w : Wd) : pfr w w := ⟨fun _ _ _ _ _ _ => rfl, fun _ _ => rfl, rfl⟩
theorem pfr.trans {w w2 w3 : Wd} (a : pfr w w2) (b : pfr w2 w3) : pfr w w3 := ⟨fun q h1 h2 h3 h4 h5 => (b.1 q h1 h2 h3 h4 h5).trans (a.1 q h1 h2 h3 h4 h5), fun j h => (b.2.1 j h).trans (a.2.1 j h), b.2.2.trans a.2.2⟩
theorem pfr.upd (w : Wd) {a k : Nat} {x : Int32} (h : a = 50 ∨ a = 51 ∨ a = 52) : pfr w (updI w a k x) := ⟨fun q h1 h2 h3 h4 h5 => if_neg (by omega), fun j _ => rd_n (by omega), rfl⟩
theorem pfr.mch {w w1 : Wd} (h : pfr w w1) : mch w w1 := ⟨fun q h1 _ h3 => h.1 q h1 (by omega) (by omega) (by omega) (by omega), fun j _ h2 => h.2.1 j h2, h.2.2⟩
theorem cch.pfr {w w1 : Wd} (h : cch w w1) : pfr w w1 := ⟨fun q h1 h2 _ _ _ => h.1 q h1 h2, h.2.1, h.2.2⟩
theorem MS.pfr {c : Nat → Nat → Nat} {w w1 : Wd} (M : MS c w) (h : pfr w w1) : MS c w1 := by
  obtain ⟨h1, h2, h3⟩ := h
  unfold MS at *
  rw [h2 13 (by decide), h2 14 (by decide), h2 15 (by decide), h1 39 (by decide) (by decide) (by decide) (by decide) (by decide), h1 36 (by decide) (by decide) (by decide) (by decide) (by decide), h1 38 (by decide) (by decide) (by decide) (by decide) (by decide)]
  exact M
theorem MCa.u5 {c : Nat → Nat → Nat} {w : Wd} {a y : Nat} {x : Int32} (C : MCa c w) (h : a = 50 ∨ a = 51 ∨ a = 52) : MCa c (updI w a y x) := by
  unfold MCa at *
  rw [rd_n (by omega)]
  rcases C with C | ⟨set, c1, c2, c3⟩
  · exact Or.inl C
  · exact Or.inr ⟨set, c1, c2, fun j hj => by rw [rd_n (by omega)]; exact c3 j hj⟩
theorem pst.trans {k : Nat} {w w2 w3 : Wd} (a : pst k w w2) (b : pst k w2 w3) : pst k w w3 := fun j h => ⟨(b j h).1.trans (a j h).1, (b j h).2.1.trans (a j h).2.1, (b j h).2.2.trans (a j h).2.2⟩
theorem pst.fd {k : Nat} {V : Int32} {w w2 w3 : Wd} (a : pst k w w2) (b : pfd k V w2 w3) : pfd k V w w3 := fun j h => by
  obtain ⟨a1, a2, a3⟩ := a j h
  obtain ⟨b1, b2, b3⟩ := b j h
  rw [a2, a3] at b3
  exact ⟨b1.trans a1, b2.trans a2, b3⟩
theorem foldw_all (k : Nat) (V : Int32) (w : Wd) : pfr w (foldw k V w) ∧ pfd k V w (foldw k V w) ∧ (foldw k V w).1 52 k = w.1 52 k := by
  unfold foldw
  by_cases h : k = 0
  · subst h
    rw [if_pos rfl]
    exact ⟨pfr.refl w, fun j h => absurd h (Nat.not_lt_zero _), rfl⟩
  · rw [if_neg h]
    refine ⟨pfr.upd w (Or.inr (Or.inr rfl)), fun j hj => ⟨rd_n (by decide), rd_n (by decide), ?_⟩, rd_k (by omega)⟩
    by_cases e : j + 1 = k
    · rw [if_pos e]
      have e2 : k - 1 = j := by omega
      rw [e2]
      exact rd_e
    · rw [if_neg e]
      exact rd_k (by omega)
theorem foldw_MCa {c : Nat → Nat → Nat} {k : Nat} {V : Int32} {w : Wd} (C : MCa c w) : MCa c (foldw k V w) := by
  unfold foldw
  by_cases h : k = 0
  · rw [if_pos h]; exact C
  · rw [if_neg h]; exact C.u5 (Or.inr (Or.inr rfl))
theorem cbeg_all (k n y : Nat) (w : Wd) : pfr w (cbeg k n y w) ∧ pst k w (cbeg k n y w) ∧ (cbeg k n y w).1 50 k = nI y ∧ (k < n → (cbeg k n y w).1 51 k = -1 ∧ (cbeg k n y w).1 52 k = if k % 2 = 0 then -9 else 1) := by
  unfold cbeg
  by_cases h : k < n
  · rw [if_pos h]
    refine ⟨((pfr.upd w (Or.inl rfl)).trans (pfr.upd _ (Or.inr (Or.inl rfl)))).trans (pfr.upd _ (Or.inr (Or.inr rfl))), fun j hj => ⟨?_, ?_, ?_⟩, ?_, fun _ => ⟨?_, rd_e⟩⟩
    · rw [rd_n (by decide), rd_n (by decide), rd_k (by omega)]
    · rw [rd_n (by decide), rd_k (by omega), rd_n (by decide)]
    · rw [rd_k (by omega), rd_n (by decide), rd_n (by decide)]
    · rw [rd_n (by decide), rd_n (by decide), rd_e]
    · rw [rd_n (by decide), rd_e]
  · rw [if_neg h]
    refine ⟨pfr.upd w (Or.inl rfl), fun j hj => ⟨rd_k (by omega), rd_n (by decide), rd_n (by decide)⟩, rd_e, fun g => absurd g h⟩
theorem cbeg_MCa {c : Nat → Nat → Nat} {k n y : Nat} {w : Wd} (C : MCa c w) : MCa c (cbeg k n y w) := by
  unfold cbeg
  split
  · exact ((C.u5 (Or.inl rfl)).u5 (Or.inr (Or.inl rfl))).u5 (Or.inr (Or.inr rfl))
  · exact C.u5 (Or.inl rfl)
/-- the first that will do; none: -9 -/
def isF (f : Nat → Bool) (n : Nat) (y : Int32) : Prop := (∃ k, k < n ∧ f k = true ∧ (∀ i, i < k → f i = false) ∧ y = nI k) ∨ ((∀ k, k < n → f k = false) ∧ y = -9)
def Wp (t : Bool) (f : Nat → Bool) (j : Nat) (y : Int32) : Prop := if t = true then isF f j y else y = if exN f j = true then 0 else 1
theorem n9 {k : Nat} (h : k < 2 ^ 31) : ¬ nI k = -9 := fun g => by
  have := nI_pos h
  rw [g] at this
  exact this (by decide)
theorem isF.fst {f : Nat → Bool} {n : Nat} {y : Int32} (hn : n ≤ 8) (h : isF f n y) : y = fstW f n n := by
  have key : ∀ m, m ≤ n → (∀ k, k < n - m → f k = false) → y = fstW f n m := by
    intro m
    induction m with
    | zero =>
      intro _ hf
      rcases h with ⟨k, a1, a2, a3, a4⟩ | ⟨a1, a2⟩
      · rw [hf k (by omega)] at a2; exact absurd a2 (by decide)
      · exact a2
    | succ m ih =>
      intro hm hf
      unfold fstW
      by_cases hj : f (n - (m + 1)) = true
      · rw [if_pos hj]
        rcases h with ⟨k, a1, a2, a3, a4⟩ | ⟨a1, a2⟩
        · have : k = n - (m + 1) := by
            rcases Nat.lt_trichotomy k (n - (m + 1)) with g | g | g
            · rw [hf k g] at a2; exact absurd a2 (by decide)
            · exact g
            · rw [a3 _ g] at hj; exact absurd hj (by decide)
          rw [a4, this]
        · rw [a1 _ (by omega)] at hj; exact absurd hj (by decide)
      · rw [if_neg hj]
        refine ih (by omega) (fun k hk => ?_)
        by_cases e : k = n - (m + 1)
        · rw [e]; simpa using hj
        · exact hf k (by omega)
  exact key n (Nat.le_refl _) (fun k hk => absurd hk (by omega))
theorem isF.ex {f : Nat → Bool} {n : Nat} {y : Int32} (hn : n ≤ 8) (h : isF f n y) : y = -9 ↔ exN f n = false := by
  rcases h with ⟨k, a1, a2, a3, a4⟩ | ⟨a1, a2⟩
  · have e : exN f n = true := exN_iff.mpr ⟨k, a1, a2⟩
    rw [e, a4]
    exact ⟨fun g => absurd g (n9 (by omega)), fun g => absurd g (by decide)⟩
  · refine ⟨fun _ => ?_, fun _ => a2⟩
    cases e : exN f n with
    | false => rfl
    | true =>
      obtain ⟨k, k1, k2⟩ := exN_iff.mp e
      rw [a1 k k1] at k2
      exact absurd k2 (by decide)
theorem Wp.no {t : Bool} {f : Nat → Bool} {j : Nat} {y : Int32} (h : Wp t f j y) (hf : f j = false) : Wp t f (j + 1) y := by
  unfold Wp at *
  cases t with
  | true =>
    rw [if_pos rfl] at *
    rcases h with ⟨k, a1, a2⟩ | ⟨a1, a2⟩
    · exact Or.inl ⟨k, by omega, a2⟩
    · refine Or.inr ⟨fun k hk => ?_, a2⟩
      by_cases e : k = j
      · rw [e]; exact hf
      · exact a1 k (by omega)
  | false =>
    rw [if_neg (by decide)] at *
    have e : exN f (j + 1) = exN f j := by
      show (exN f j || f j) = exN f j
      rw [hf, Bool.or_false]
    rw [e]
    exact h
theorem Wp.step {t V : Bool} {f : Nat → Bool} {j k : Nat} {y : Int32} (ht : t = true ↔ k % 2 = 0) (hj : j < 8) (h : Wp t f j y) (hf : f j = (V == t)) : Wp t f (j + 1) (fo k (nI j) y (b2i V)) := by
  cases V with
  | true =>
    cases t with
    | true =>
      have hk := ht.mp rfl
      unfold Wp fo at *
      rw [if_pos rfl] at *
      rw [if_pos hk]
      rcases h with ⟨i, a1, a2, a3, a4⟩ | ⟨a1, a2⟩
      · rw [if_neg (fun g => n9 (k := i) (by omega) (a4.symm.trans g.1))]
        exact Or.inl ⟨i, by omega, a2, a3, a4⟩
      · rw [if_pos ⟨a2, rfl⟩]
        exact Or.inl ⟨j, by omega, hf, a1, rfl⟩
    | false =>
      have hk : ¬ k % 2 = 0 := fun g => absurd (ht.mpr g) (by decide)
      have e : fo k (nI j) y (b2i true) = y := by
        unfold fo
        rw [if_neg hk]
        exact if_neg (by decide)
      rw [e]
      exact h.no hf
  | false =>
    cases t with
    | true =>
      have hk := ht.mp rfl
      have e : fo k (nI j) y (b2i false) = y := by
        unfold fo
        rw [if_pos hk]
        exact if_neg (fun g => absurd g.2 (by decide))
      rw [e]
      exact h.no hf
    | false =>
      have hk : ¬ k % 2 = 0 := fun g => absurd (ht.mpr g) (by decide)
      have e : fo k (nI j) y (b2i false) = 0 := by
        unfold fo
        rw [if_neg hk]
        exact if_pos rfl
      rw [e]
      unfold Wp
      rw [if_neg (by decide), if_pos]
      exact exN_iff.mpr ⟨j, by omega, hf⟩
section NODE
variable {c : Nat → Nat → Nat} {a b n x : Nat}
theorem l_words {m k : Nat} {r : List Nat} {t : Bool} (hc : okc c) (ha : a < 3) (hb3 : b < 3) (hn : n ≤ 4) (ht : t = true ↔ k % 2 = 0) (hk : k + (m + 1) = n) (hr : okr (c 0 0) r)
    (IH : ∀ (q : List Nat) (L : Int32) (w : Wd), okr (c 0 0) q → w.1 50 (k + 1) = nI (cm q) → MS c w → MCa c w → (k + 1 < n → w.1 51 (k + 1) = -1 ∧ w.1 52 (k + 1) = if (k + 1) % 2 = 0 then -9 else 1) →
      ∃ w1, plR a b n x (nI (k + 1)) L .null .null .null .null .null w = plR a b n x (nI k) (b2i (won c a b x m (!t) q)) .null .null .null .null .null w1 ∧ pfr w w1 ∧ pfd (k + 1) (b2i (won c a b x m (!t) q)) w w1 ∧ MCa c w1) :
    ∀ (i j : Nat) (L : Int32) (v1 v8 v9 v10 v11 : Value) (w : Wd), i + j = 8 → w.1 50 k = nI (cm r) → w.1 51 k = pk j → Wp t (wonS c (2 ^ who a b k) r t (won c a b x m (!t))) j (w.1 52 k) → MS c w → MCa c w →
      ∃ w1, plR a b n x (nI k) L v1 v8 v9 v10 v11 w = plR a b n x (nI k + (-1)) (b2i (if exN (wonS c (2 ^ who a b k) r t (won c a b x m (!t))) 8 = true then t else !t)) .null .null .null .null .null w1 ∧ pfr w w1 ∧
        pfd k (b2i (if exN (wonS c (2 ^ who a b k) r t (won c a b x m (!t))) 8 = true then t else !t)) w w1 ∧ MCa c w1 ∧ Wp t (wonS c (2 ^ who a b k) r t (won c a b x m (!t))) 8 (w1.1 52 k) := by
  have h5 := hc.1
  have hwho : who a b k < 3 := by unfold who; split <;> assumption
  have hset : 2 ^ who a b k < 2 ^ 31 := Nat.pow_lt_pow_right (by decide) (by omega)
  intro i
  induction i with
  | zero =>
    intro j L v1 v8 v9 v10 v11 w hj hb hp W M C
    have ej : j = 8 := by omega
    subst ej
    have hv : b2i (if exN (wonS c (2 ^ who a b k) r t (won c a b x m (!t))) 8 = true then t else !t) = if k % 2 = 0 then (if w.1 52 k = -9 then 0 else 1) else w.1 52 k := by
      have W2 := W
      unfold Wp at W2
      cases t with
      | true =>
        rw [if_pos rfl] at W2
        rw [if_pos (ht.mp rfl)]
        cases he : exN (wonS c (2 ^ who a b k) r true (won c a b x m (!true))) 8 with
        | true =>
          rw [if_pos rfl, if_neg (fun g => by rw [(W2.ex (by decide)).mp g] at he; exact absurd he (by decide))]
          rfl
        | false =>
          rw [if_neg (by decide), if_pos ((W2.ex (by decide)).mpr he)]
          rfl
      | false =>
        rw [if_neg (by decide)] at W2
        rw [if_neg (fun g => absurd (ht.mpr g) (by decide)), W2]
        cases he : exN (wonS c (2 ^ who a b k) r false (won c a b x m (!false))) 8 with
        | true => rw [if_pos rfl, if_pos rfl]; rfl
        | false => rw [if_neg (by decide), if_neg (by decide)]; rfl
    obtain ⟨f1, f2, f3⟩ := foldw_all k (b2i (if exN (wonS c (2 ^ who a b k) r t (won c a b x m (!t))) 8 = true then t else !t)) w
    exact ⟨_, pl_over (by omega) hn hp hv, f1, f2, foldw_MCa C, by rw [f3]; exact W⟩
  | succ i ih =>
    intro j L v1 v8 v9 v10 v11 w hj hb hp W M C
    -- after a child
    have fin : ∀ (q : List Nat) (w2 : Wd), af c (2 ^ who a b k) r j = some q → plR a b n x (nI k) L v1 v8 v9 v10 v11 w = plR a b n x (nI (k + 1)) L .null .null .null .null .null (cbeg (k + 1) n (cm q) w2) → pfr w w2 → pst k w w2 → w2.1 50 k = nI (cm r) → w2.1 51 k = nI j → w2.1 52 k = w.1 52 k → MCa c w2 →
        ∃ w1, plR a b n x (nI k) L v1 v8 v9 v10 v11 w = plR a b n x (nI k + (-1)) (b2i (if exN (wonS c (2 ^ who a b k) r t (won c a b x m (!t))) 8 = true then t else !t)) .null .null .null .null .null w1 ∧ pfr w w1 ∧
          pfd k (b2i (if exN (wonS c (2 ^ who a b k) r t (won c a b x m (!t))) 8 = true then t else !t)) w w1 ∧ MCa c w1 ∧ Wp t (wonS c (2 ^ who a b k) r t (won c a b x m (!t))) 8 (w1.1 52 k) := by
      intro q w2 haf e0 g1 g2 g3 g4 g5 g6
      have hq := af_ok7 hr (by omega) haf
      obtain ⟨z1, z2, z3, z4⟩ := cbeg_all (k + 1) n (cm q) w2
      obtain ⟨w3, y1, y2, y3, y4⟩ := IH q L (cbeg (k + 1) n (cm q) w2) hq z3 ((M.pfr g1).pfr z1) (cbeg_MCa g6) z4
      have s3 : pst k w2 w3 := fun i hi => by
        obtain ⟨a1, a2, a3⟩ := z2 i (by omega)
        obtain ⟨b1, b2, b3⟩ := y3 i (by omega)
        rw [if_neg (by omega)] at b3
        exact ⟨b1.trans a1, b2.trans a2, b3.trans a3⟩
      obtain ⟨a1, a2, a3⟩ := z2 k (by omega)
      obtain ⟨b1, b2, b3⟩ := y3 k (by omega)
      rw [if_pos rfl, a2, a3, g4, g5] at b3
      have W3 : Wp t (wonS c (2 ^ who a b k) r t (won c a b x m (!t))) (j + 1) (w3.1 52 k) := by
        rw [b3]
        refine W.step ht (by omega) ?_
        unfold wonS
        rw [haf]
      obtain ⟨w4, x1, x2, x3, x4, x5⟩ := ih (j + 1) (b2i (won c a b x m (!t) q)) .null .null .null .null .null w3 (by omega) (b1.trans (a1.trans g3)) (b2.trans (a2.trans g4)) W3 (((M.pfr g1).pfr z1).pfr y2) y4
      exact ⟨w4, e0.trans (y1.trans x1), ((g1.trans z1).trans y2).trans x2, (g2.trans s3).fd x3, x4, x5⟩
    have u1 : pfr w (updI w 51 k (nI j)) := pfr.upd w (Or.inr (Or.inl rfl))
    have us : pst k w (updI w 51 k (nI j)) := fun i hi => ⟨rd_n (by decide), rd_k (by omega), rd_n (by decide)⟩
    have uC : MCa c (updI w 51 k (nI j)) := C.u5 (Or.inr (Or.inl rfl))
    rcases Nat.lt_or_ge j 7 with h7 | h7
    · obtain ⟨w2, e1, e2, e3⟩ := m_said (d := 35) (x := j) (M.pfr u1) hc uC hr hset (by omega)
      have k50 : w2.1 50 = (updI w 51 k (nI j)).1 50 := e2.1 50 (by decide) (by decide)
      have k51 : w2.1 51 = (updI w 51 k (nI j)).1 51 := e2.1 51 (by decide) (by decide)
      have k52 : w2.1 52 = (updI w 51 k (nI j)).1 52 := e2.1 52 (by decide) (by decide)
      have g2 : pst k w w2 := us.trans (fun i _ => ⟨by rw [k50], by rw [k51], by rw [k52]⟩)
      have g3 : w2.1 50 k = nI (cm r) := by rw [k50, rd_n (by decide)]; exact hb
      have g4 : w2.1 51 k = nI j := by rw [k51, rd_e]
      have g5 : w2.1 52 k = w.1 52 k := by rw [k52, rd_n (by decide)]
      cases haf : af c (2 ^ who a b k) r j with
      | none =>
        rw [haf] at e1
        have t0 := try_none (n := n) (x := x) (L := L) (v1 := v1) (v8 := v8) (v9 := v9) (v10 := v10) (v11 := v11) ha hb3 (by omega) hn h7 hb hp e1
        have W2 : Wp t (wonS c (2 ^ who a b k) r t (won c a b x m (!t))) (j + 1) (w2.1 52 k) := by
          rw [g5]
          refine W.no ?_
          unfold wonS
          rw [haf]
        obtain ⟨w4, x1, x2, x3, x4, x5⟩ := ih (j + 1) L .null .null .null .null .null w2 (by omega) g3 g4 W2 ((M.pfr u1).pfr e2.pfr) e3
        exact ⟨w4, t0.trans x1, (u1.trans e2.pfr).trans x2, g2.fd x3, x4, x5⟩
      | some q =>
        rw [haf] at e1
        have hq := af_ok7 hr (by omega) haf
        exact fin q w2 haf (try_some ha hb3 (by omega) hn h7 (cm_lt (hq.five hc)) hb hp e1) (u1.trans e2.pfr) g2 g3 g4 g5 e3
    · have ej : j = 7 := by omega
      subst ej
      have haf : af c (2 ^ who a b k) r 7 = some r := by
        unfold af
        rw [if_neg (by decide), if_neg (by decide), if_neg (by decide)]
      exact fin r (updI w 51 k (nI 7)) haf (try_7 (by omega) hn (cm_lt (hr.five hc)) hb hp) u1 us ((rd_n (by decide)).trans hb) rd_e (rd_n (by decide)) uC
theorem l_node (hc : okc c) (ha : a < 3) (hb3 : b < 3) (hn : n ≤ 4) (hx : x < 10) : ∀ (m k : Nat) (r : List Nat) (t : Bool) (L : Int32) (v1 v8 v9 v10 v11 : Value) (w : Wd), (t = true ↔ k % 2 = 0) → k + m = n → okr (c 0 0) r → w.1 50 k = nI (cm r) → MS c w → MCa c w → (k < n → w.1 51 k = -1 ∧ w.1 52 k = if k % 2 = 0 then -9 else 1) →
    ∃ w1, plR a b n x (nI k) L v1 v8 v9 v10 v11 w = plR a b n x (nI k + (-1)) (b2i (won c a b x m t r)) .null .null .null .null .null w1 ∧ pfr w w1 ∧ pfd k (b2i (won c a b x m t r)) w w1 ∧ MCa c w1 ∧
      (∀ m', m = m' + 1 → Wp t (wonS c (2 ^ who a b k) r t (won c a b x m' (!t))) 8 (w1.1 52 k)) := by
  intro m
  induction m with
  | zero =>
    intro k r t L v1 v8 v9 v10 v11 w ht hk hr hb M C _
    have ek : k = n := by omega
    subst ek
    obtain ⟨f1, f2, f3⟩ := foldw_all k (b2i ((wk c r).testBit x)) w
    exact ⟨_, pl_end hn hx hc hr M hb, f1, f2, foldw_MCa C, fun m' h => absurd h (by omega)⟩
  | succ m IH =>
    intro k r t L v1 v8 v9 v10 v11 w ht hk hr hb M C hi
    obtain ⟨i1, i2⟩ := hi (by omega)
    have W0 : Wp t (wonS c (2 ^ who a b k) r t (won c a b x m (!t))) 0 (w.1 52 k) := by
      unfold Wp
      cases t with
      | true =>
        rw [if_pos rfl, i2, if_pos (ht.mp rfl)]
        exact Or.inr ⟨fun k h => absurd h (Nat.not_lt_zero _), rfl⟩
      | false =>
        rw [if_neg (by decide), i2, if_neg (fun g => absurd (ht.mpr g) (by decide))]
        rfl
    obtain ⟨w1, a1, a2, a3, a4, a5⟩ := l_words (x := x) hc ha hb3 hn ht hk hr (fun q L w hq g1 g2 g3 g4 => by
      obtain ⟨w1, b1, b2, b3, b4, _⟩ := IH (k + 1) q (!t) L .null .null .null .null .null w (by cases t with | true => (have := ht.mp rfl; exact ⟨fun g => absurd g (by decide), fun g => by omega⟩) | false => (have h2 : ¬ k % 2 = 0 := fun g => absurd (ht.mpr g) (by decide); exact ⟨fun _ => by omega, fun _ => rfl⟩)) (by omega) hq g1 g2 g3 g4
      rw [nI_dn] at b1
      exact ⟨w1, b1, b2, b3, b4⟩) 8 0 L v1 v8 v9 v10 v11 w (by omega) hb i1 W0 M C
    have e : won c a b x (m + 1) t r = if exN (wonS c (2 ^ who a b k) r t (won c a b x m (!t))) 8 = true then t else !t := by
      have e2 : who a b k = if t = true then a else b := by
        unfold who
        cases t with
        | true => rw [if_pos rfl, if_pos (ht.mp rfl)]
        | false =>
          have h2 : ¬ k % 2 = 0 := fun g => absurd (ht.mpr g) (by decide)
          rw [if_neg h2]
          rfl
      rw [e2]
      rfl
    rw [e]
    exact ⟨w1, a1, a2, a3, a4, fun m' h => by have : m' = m := by omega
                                              rw [this]; exact a5⟩
end NODE

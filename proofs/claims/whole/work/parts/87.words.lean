/-! words: lay, lift, swap, copy, undo -/
theorem pow_bit : ∀ q, q < 3 → ∀ k, k < 3 → (2 ^ q).testBit k = decide (q = k) := by decide +kernel
section MAYQ
variable {c : Nat → Nat → Nat}
theorem mayQ (hc : okc c) {q wanted : Nat} (hq : q < c 0 2) : mayOne c (2 ^ q) wanted = (c 5 q &&& wanted == wanted) := by
  have h3 := hc.2.2.1
  unfold mayOne
  cases h : (c 5 q &&& wanted == wanted) with
  | true =>
    rw [mayN_iff]
    refine ⟨q, hq, ?_⟩
    unfold may1
    rw [h, pow_bit q (by omega) q (by omega)]
    simp
  | false =>
    cases h2 : mayN c (2 ^ q) wanted (c 0 2) with
    | false => rfl
    | true =>
      exfalso
      obtain ⟨k, k1, k2⟩ := mayN_iff.mp h2
      unfold may1 at k2
      rw [pow_bit q (by omega) k (by omega), Bool.and_eq_true] at k2
      have e := of_decide_eq_true k2.1
      subst e
      rw [h] at k2
      exact absurd k2.2 (by decide)
theorem may_q (hc : okc c) {q s : Nat} (hq : q < c 0 2) (hs : s < 5) : mayOne c (2 ^ q) (2 ^ s) = (c 5 q).testBit s := by
  rw [mayQ hc hq]
  exact and1 _ (c5_lt hc hq) s hs
theorem may_q2 (hc : okc c) {q a b : Nat} (hq : q < c 0 2) (ha : a < 5) (hb : b < 5) : mayOne c (2 ^ q) (2 ^ a ||| 2 ^ b) = ((c 5 q).testBit a && (c 5 q).testBit b) := by
  rw [mayQ hc hq]
  exact and2 _ (c5_lt hc hq) a ha b hb
end MAYQ
section WORDS
variable {p : Nat} {c : Nat → Nat → Nat} {rs : Nat → List Nat} {sp : Nat} {us : List (Nat × List Nat × Nat)} {im : Nat → Option ((Nat → List Nat) × Nat)} {ht : List (Nat × Nat)} {bt : Nat → Nat} {n : Nat} {tr : Int64} {w w2 : Wd}
theorem XR.shf {rs2 : Nat → List Nat} {sp2 : Nat} {us2 : List (Nat × List Nat × Nat)} {im2 : Nat → Option ((Nat → List Nat) × Nat)} (hp : scp p) (X : XR p c rs sp us im ht bt n tr w) (f : frm 4 11 w w2) (S : XSh rs2 sp2 us2 im2 w2) : XR p c rs2 sp2 us2 im2 ht bt n tr w2 := by
  obtain ⟨x1, x2, x3, x4, x5, x6, x7⟩ := X
  refine ⟨x1.of hp (fun q h1 _ => (f q (by omega)).1), S, ?_, ?_, ?_, ?_, ?_⟩
  · unfold XHt at *
    rw [(f 15 (by omega)).1, (f 16 (by omega)).1, (f 17 (by omega)).1]
    exact x3
  · unfold XT at *
    rw [(f 1 (by omega)).1, (f 2 (by omega)).1]
    exact x4
  · rw [(f 19 (by omega)).2]; exact x5
  · rw [(f 0 (by omega)).1]; exact x6
  · rw [(f 0 (by omega)).1]; exact x7
/-- what a word changes at the reference -/
def bch (w w2 : Wd) : Prop := (∀ q, q ≠ 34 → q ≠ 40 → q ≠ 43 → w2.1 q = w.1 q) ∧ (∀ j, j ≠ 0 → j ≠ 23 → w2.1 34 j = w.1 34 j) ∧ w2.2 = w.2
theorem MR.bch {rs2 : Nat → List Nat} {sp2 : Nat} {us2 : List (Nat × List Nat × Nat)} (M : MR c rs sp us im ht bt n tr w) (h : bch w w2) (R : MRo rs2 sp2 w2) (U : MUn us2 w2) : MR c rs2 sp2 us2 im ht bt n tr w2 := by
  obtain ⟨h1, h2, h3⟩ := h
  obtain ⟨m1, m2, m3, m4, m5, m6, m7, m8, m9⟩ := M
  refine ⟨?_, R, U, ?_, ?_, ?_, by rw [h3]; exact m7, ?_, ?_⟩
  · unfold MS at *
    rw [h2 13 (by decide) (by decide), h2 14 (by decide) (by decide), h2 15 (by decide) (by decide), h1 39 (by decide) (by decide) (by decide), h1 36 (by decide) (by decide) (by decide), h1 38 (by decide) (by decide) (by decide)]
    exact m1
  · unfold MIm at *
    rw [h1 41 (by decide) (by decide) (by decide), h1 42 (by decide) (by decide) (by decide)]
    exact m4
  · unfold MHt at *
    rw [h2 26 (by decide) (by decide), h1 44 (by decide) (by decide) (by decide), h1 45 (by decide) (by decide) (by decide)]
    exact m5
  · unfold MT at *
    rw [h2 3 (by decide) (by decide), h1 35 (by decide) (by decide) (by decide)]
    exact m6
  · unfold MCa at *
    rw [h2 30 (by decide) (by decide), h1 48 (by decide) (by decide) (by decide)]
    exact m8
  · unfold MVZ MV at *
    rw [h1 47 (by decide) (by decide) (by decide)]
    exact m9
theorem l_shift {g : Nat → Int32} {x1 x2 x3 : Int32} {d : Nat} : ∀ (m k : Nat) (w : Wd), m + k = 33 → (∀ j, j < k → w.1 43 j = g (j + 3)) → (∀ j, k ≤ j → w.1 43 j = g j) →
    ∃ w2, runs (T_X9_becomes (sem d)) (12, [.ref 34, .int x1, .int x2, .int x3, .int (nI k)], [], w) = runs (T_X9_becomes (sem d)) (12, [.ref 34, .int x1, .int x2, .int x3, .int 33], [], w2) ∧ (∀ j, j < 33 → w2.1 43 j = g (j + 3)) ∧ (∀ q, q ≠ 43 → w2.1 q = w.1 q) ∧ w2.2 = w.2 := by
  intro m
  induction m with
  | zero =>
    intro k w hk h1 h2
    have ek : k = 33 := by omega
    subst ek
    exact ⟨w, rfl, h1, fun _ _ => rfl, rfl⟩
  | succ m ih =>
    intro k w hk h1 h2
    have e1 : nI k + 3 = nI (k + 3) := nI_add k 3
    have t := p_X9_becomes_12F_L12 (ex := sem d) (x1 := x1) (x2 := x2) (x3 := x3) (x4 := nI k) (w := w) (nI_ge (a := k) (b := 33) (by omega) (by decide)) (by rw [e1]; exact vp_in_nI (by omega) (by decide)) (vp_in_nI (by omega) (by decide))
    rw [e1, nI_clamp (show k < 2 ^ 31 by omega), nI_clamp (show k + 3 < 2 ^ 31 by omega), nI_1, h2 (k + 3) (by omega)] at t
    obtain ⟨w2, a1, a2, a3, a4⟩ := ih (k + 1) (updI w 43 k (g (k + 3))) (by omega) (fun j hj => by
      by_cases e : j = k
      · rw [e, rd_e]
      · rw [rd_k e]; exact h1 j (by omega)) (fun j hj => by rw [rd_k (by omega)]; exact h2 j (by omega))
    exact ⟨w2, t.trans a1, a2, fun q hq => by rw [a3 q hq]; funext z; rw [rd_n hq], a4⟩
theorem m_becomes {t cost d : Nat} {r : List Nat} (R : MRo rs sp w) (U : MUn us w) (hu : us.length ≤ 12) (h4 : t < 4) :
    ∃ w2, sem (d + 1) 162 [.ref 34, .int (nI t), .int (nI (cm r)), .int (nI cost)] w = some (none, w2) ∧ bch w w2 ∧ MRo (upR rs t r) (sp + cost) w2 ∧ MUn (((t, rs t, sp) :: us).take 12) w2 := by
  have hv : vp_in (nI t) 5 := vp_in_nI (by omega) (by decide)
  have hcl : (nI t).toNatClampNeg = t := nI_clamp (by omega)
  obtain ⟨R1, R2⟩ := R
  obtain ⟨U1, U2⟩ := U
  by_cases h12 : us.length = 12
  · have g12 : (w.1 34 23) = 12 := by rw [U1, h12]; rfl
    obtain ⟨w1, a1, a2, a3, a4⟩ := l_shift (g := w.1 43) (x1 := nI t) (x2 := nI (cm r)) (x3 := nI cost) (d := d) 33 0 w (by omega) (fun j h => absurd h (Nat.not_lt_zero _)) (fun j _ => rfl)
    have t0 := p_X9_becomes_0F_L12 (ex := sem d) (x1 := nI t) (x2 := nI (cm r)) (x3 := nI cost) g12
    have t1 := p_X9_becomes_12T_R (ex := sem d) (x1 := nI t) (x2 := nI (cm r)) (x3 := nI cost) (x4 := 33) (w := w1) (by decide) hv hv
    rw [hcl] at t1
    have e40 : w1.1 40 t = nI (cm (rs t)) := by rw [a3 40 (by decide)]; exact R1 t h4
    have e44 : w1.1 40 4 = nI sp := by rw [a3 40 (by decide)]; exact R2
    refine ⟨_, e_X9_becomes.trans (t0.trans (a1.trans t1)), ⟨fun q q1 q2 q3 => ?_, fun j j0 j1 => ?_, ?_⟩, ⟨fun k hk => ?_, ?_⟩, ?_, fun i hi => ?_⟩
    · funext z
      rw [rd_n q2, rd_n q2, rd_n q1, rd_n q3, rd_n q3, rd_n q3, rd_n q1, a3 q q3]
    · rw [rd_n (by decide), rd_n (by decide), rd_k j1, rd_n (by decide), rd_n (by decide), rd_n (by decide), rd_k j1, a3 34 (by decide)]
    · exact a4
    · rw [rd_k (by omega)]
      unfold upR
      by_cases e : k = t
      · rw [e, rd_e, if_pos rfl]
      · rw [rd_k e, if_neg e, rd_n (by decide), rd_n (by decide), rd_n (by decide), rd_n (by decide), rd_n (by decide), a3 40 (by decide)]
        exact R1 k hk
    · rw [rd_e, rd_k (by omega), rd_n (by decide), rd_n (by decide), rd_n (by decide), rd_n (by decide), rd_n (by decide), e44, nI_add]
    · rw [rd_n (by decide), rd_n (by decide), rd_e, List.length_take, List.length_cons, h12]
      rfl
    · have hlen : (((t, rs t, sp) :: us).take 12).length = 12 := by rw [List.length_take, List.length_cons, h12]; rfl
      rw [hlen] at hi
      have k0 : ∀ k, (updI (updI (updI (updI (updI (updI (updI w1 34 23 11) 43 33 (nI t)) 43 34 (w1.1 40 t)) 43 35 (w1.1 40 4)) 34 23 12) 40 t (nI (cm r))) 40 4 ((updI (updI (updI (updI (updI (updI w1 34 23 11) 43 33 (nI t)) 43 34 (w1.1 40 t)) 43 35 (w1.1 40 4)) 34 23 12) 40 t (nI (cm r))).1 40 4 + nI cost)).1 43 k = (updI (updI (updI (updI w1 34 23 11) 43 33 (nI t)) 43 34 (w1.1 40 t)) 43 35 (w1.1 40 4)).1 43 k := fun k => by
        rw [rd_n (by decide), rd_n (by decide), rd_n (by decide)]
      rw [k0, k0, k0, hlen, List.getElem_take]
      cases i with
      | zero =>
        refine ⟨?_, ?_, ?_⟩
        · rw [rd_k (by decide), rd_k (by decide), rd_e]; rfl
        · rw [rd_k (by decide), rd_e, e40]; rfl
        · rw [rd_e, e44]; rfl
      | succ i =>
        have q := U2 i (by omega)
        refine ⟨?_, ?_, ?_⟩
        · rw [rd_k (by omega), rd_k (by omega), rd_k (by omega), rd_n (by decide), a2 _ (by omega), show 3 * (12 - 1 - (i + 1)) + 3 = 3 * (us.length - 1 - i) by omega]; exact q.1
        · rw [rd_k (by omega), rd_k (by omega), rd_k (by omega), rd_n (by decide), a2 _ (by omega), show 3 * (12 - 1 - (i + 1)) + 1 + 3 = 3 * (us.length - 1 - i) + 1 by omega]; exact q.2.1
        · rw [rd_k (by omega), rd_k (by omega), rd_k (by omega), rd_n (by decide), a2 _ (by omega), show 3 * (12 - 1 - (i + 1)) + 2 + 3 = 3 * (us.length - 1 - i) + 2 by omega]; exact q.2.2
  · have g12 : ¬ (w.1 34 23) = 12 := by rw [U1]; exact fun h => h12 ((nI_eq (b := 12) (by omega) (by decide)).mp h)
    have e3 : 3 * (w.1 34 23) = nI (3 * us.length) := by
      rw [U1]
      exact pk_mul 3 us.length
    have e31 : 3 * (w.1 34 23) + 1 = nI (3 * us.length + 1) := by rw [e3, nI_1]
    have e32 : 3 * (w.1 34 23) + 2 = nI (3 * us.length + 2) := by rw [e3]; exact nI_add _ 2
    have t1 := p_X9_becomes_0T_R (ex := sem d) (x1 := nI t) (x2 := nI (cm r)) (x3 := nI cost) (w := w) g12 (by rw [e3]; exact vp_in_nI (by omega) (by decide)) hv (by rw [e31]; exact vp_in_nI (by omega) (by decide)) (by rw [e32]; exact vp_in_nI (by omega) (by decide)) hv
    rw [e3, nI_1, nI_clamp (show 3 * us.length < 2 ^ 31 by omega), nI_clamp (show 3 * us.length + 1 < 2 ^ 31 by omega), show nI (3 * us.length) + 2 = nI (3 * us.length + 2) from nI_add _ 2, nI_clamp (show 3 * us.length + 2 < 2 ^ 31 by omega), hcl, U1, nI_1, R1 t h4, R2] at t1
    have k40 : ∀ k, k ≠ t → (updI (updI (updI (updI (updI w 43 (3 * us.length) (nI t)) 43 (3 * us.length + 1) (nI (cm (rs t)))) 43 (3 * us.length + 2) (nI sp)) 34 23 (nI (us.length + 1))) 40 t (nI (cm r))).1 40 k = w.1 40 k := fun k hk => by
      rw [rd_k hk, rd_n (by decide), rd_n (by decide), rd_n (by decide), rd_n (by decide)]
    rw [k40 4 (by omega), R2, nI_add] at t1
    refine ⟨_, e_X9_becomes.trans t1, ⟨fun q q1 q2 q3 => ?_, fun j j0 j1 => ?_, rfl⟩, ⟨fun k hk => ?_, ?_⟩, ?_, fun i hi => ?_⟩
    · funext z
      rw [rd_n q2, rd_n q2, rd_n q1, rd_n q3, rd_n q3, rd_n q3]
    · rw [rd_n (by decide), rd_n (by decide), rd_k j1, rd_n (by decide), rd_n (by decide), rd_n (by decide)]
    · rw [rd_k (by omega)]
      unfold upR
      by_cases e : k = t
      · rw [e, rd_e, if_pos rfl]
      · rw [k40 k e, if_neg e]
        exact R1 k hk
    · exact rd_e
    · rw [rd_n (by decide), rd_n (by decide), rd_e, List.length_take, List.length_cons, Nat.min_eq_right (by omega)]
    · have hlen : (((t, rs t, sp) :: us).take 12).length = us.length + 1 := by rw [List.length_take, List.length_cons, Nat.min_eq_right (by omega)]
      rw [hlen] at hi
      have k0 : ∀ k, (updI (updI (updI (updI (updI (updI w 43 (3 * us.length) (nI t)) 43 (3 * us.length + 1) (nI (cm (rs t)))) 43 (3 * us.length + 2) (nI sp)) 34 23 (nI (us.length + 1))) 40 t (nI (cm r))) 40 4 (nI (sp + cost))).1 43 k = (updI (updI (updI w 43 (3 * us.length) (nI t)) 43 (3 * us.length + 1) (nI (cm (rs t)))) 43 (3 * us.length + 2) (nI sp)).1 43 k := fun k => by
        rw [rd_n (by decide), rd_n (by decide), rd_n (by decide)]
      rw [k0, k0, k0, hlen, List.getElem_take]
      cases i with
      | zero =>
        rw [show 3 * (us.length + 1 - 1 - 0) = 3 * us.length by omega]
        refine ⟨?_, ?_, ?_⟩
        · rw [rd_k (by omega), rd_k (by omega), rd_e]; rfl
        · rw [rd_k (by omega), rd_e]; rfl
        · rw [rd_e]; rfl
      | succ i =>
        have q := U2 i (by omega)
        rw [show 3 * (us.length + 1 - 1 - (i + 1)) = 3 * (us.length - 1 - i) by omega]
        refine ⟨?_, ?_, ?_⟩
        · rw [rd_k (by omega), rd_k (by omega), rd_k (by omega)]; exact q.1
        · rw [rd_k (by omega), rd_k (by omega), rd_k (by omega)]; exact q.2.1
        · rw [rd_k (by omega), rd_k (by omega), rd_k (by omega)]; exact q.2.2
theorem okZ_word {t : Nat} {r : List Nat} (ok : okZ c rs us im ht bt n) (h1 : t < c 0 1) (hr : okr (c 0 0) r) : okZ c (upR rs t r) (((t, rs t, sp) :: us).take 12) im ht bt n := by
  obtain ⟨hc, ⟨o1, ⟨o2, o3⟩, o4⟩, k2, k3, k4, k5, k6⟩ := ok
  have h4 := hc.2.1
  refine ⟨hc, ⟨fun k hk => ?_, ⟨by rw [List.length_take]; exact Nat.min_le_left _ _, fun u hu => ?_⟩, o4⟩, fun k g1 g2 => ?_, fun u hu => ?_, k4, k5, k6⟩
  · unfold upR
    split
    · exact hr
    · exact o1 k hk
  · rcases List.mem_cons.mp (List.mem_of_mem_take hu) with rfl | hu
    · exact ⟨by show t < 4; omega, o1 t (by omega)⟩
    · exact o3 u hu
  · unfold upR
    rw [if_neg (by omega)]
    exact k2 k g1 g2
  · rcases List.mem_cons.mp (List.mem_of_mem_take hu) with rfl | hu
    · exact h1
    · exact k3 u hu
/-- a word said on both sides -/
theorem agr_word {kx km : Nat} {ax am : List Value} {v : Int32} {t cost : Nat} {r : List Nat} (hp : scp p) (ok : okZ c rs us im ht bt n) (X : XR p c rs sp us im ht bt n tr w) (M : MR c rs sp us im ht bt n tr w) (h1 : t < c 0 1) (hr : okr (c 0 0) r)
    (hx : ∀ w2, sem 39 95 [.ref 4, .int (nI t), .int (nI (cx r)), .int (nI cost)] w = some (none, w2) → sem 40 kx ax w = some (some (.int v), w2))
    (hm : ∀ w' w3, MR c rs sp us im ht bt n tr w' → bch (updI w' 34 0 0) w3 → sem 39 162 [.ref 34, .int (nI t), .int (nI (cm r)), .int (nI cost)] (updI w' 34 0 0) = some (none, w3) → sem 40 km am w' = some (some (.int v), w3)) : agr kx km ax am w := by
  have h4 := ok.1.2.1
  obtain ⟨w2, a1, a2, a3⟩ := s_change (d := 36) (cost := cost) (r := r) X.2.1 ok.2.1.2.1.1 (t := t) (by omega)
  refine agr_s hp (okZ_word (sp := sp) ok h1 hr) M (hx w2 a1) (fun q hq => a2 q (by omega)) (X.shf hp (a2.wide (by decide) (by decide)) a3) (fun w' M' => ?_)
  have M1 := M'.thr
  obtain ⟨w3, b1, b2, b3, b4⟩ := m_becomes (d := 38) (cost := cost) (r := r) M1.2.1 M1.2.2.1 ok.2.1.2.1.1 (t := t) (by omega)
  refine ⟨w3, hm w' w3 M' b2 b1, fun q hq => ⟨?_, by rw [b2.2.2]; rfl⟩, M1.bch b2 b3 b4⟩
  rw [b2.1 q (by omega) (by omega) (by omega)]
  funext z
  rw [rd_n (by omega)]
end WORDS

/-! the class's Reader: the whole text -/
theorem told_or {tv k : Nat} (htv : tv < 1024) (hk : k ≤ 9) : (tv ||| 2 ^ k) < 1024 ∧ ∀ j, ((tv ||| 2 ^ k).testBit j = true ↔ (tv.testBit j = true ∨ j = k)) := by
  refine ⟨Nat.or_lt_two_pow (n := 10) htv (Nat.pow_lt_pow_right (by decide) (by omega)), fun j => ?_⟩
  rw [Nat.testBit_or, Bool.or_eq_true, Nat.testBit_two_pow, decide_eq_true_iff]
  exact ⟨fun h => h.imp id Eq.symm, fun h => h.imp id Eq.symm⟩
section XREAD2
variable {d p : Nat} {S : PS} {w : Wd}
/-- the world behind an item told -/
theorem told_XD {w1 : Wd} (hp : scp p) (X : XD p S w) (h9 : 4 ≤ S.1 ∧ S.1 ≤ 9) (T : tlI p (tellD S.1 S.2.1 S.2.2.1) w w1) :
    XD p (0, S.2.1, tellD S.1 S.2.1 S.2.2.1, S.2.2.2 + 1) (updI (updI (updI w1 1 10 ((w1.1 1 10) ||| ((1 : Int32) <<< ((w1.1 1 6) &&& 31)))) 1 6 0) 1 9 (nI (S.2.2.2 + 1))) ∧ rdf p w (updI (updI (updI w1 1 10 ((w1.1 1 10) ||| ((1 : Int32) <<< ((w1.1 1 6) &&& 31)))) 1 6 0) 1 9 (nI (S.2.2.2 + 1))) := by
  have hpp : p = 20 ∨ p = 27 := hp
  obtain ⟨x1, x2, x3, x4, x5, tv, x6, x7, x8⟩ := X
  obtain ⟨t1, t2, t3, t4⟩ := T
  have e1 := t3 1 (by omega)
  obtain ⟨o1, o2⟩ := told_or (tv := tv) (k := S.1) x6 h9.2
  have e3 : (w1.1 1 10) ||| ((1 : Int32) <<< ((w1.1 1 6) &&& 31)) = nI (tv ||| 2 ^ S.1) := by
    rw [e1, x7, x1, i_pow (by omega), i_or]
  rw [e3]
  refine ⟨⟨?_, fun h => absurd rfl h, rd_e, t1.same (fun q h1 h2 => ?_), t2.same ?_, tv ||| 2 ^ S.1, o1, ?_, fun j j1 j2 => ?_⟩, ?_⟩
  · rw [rd_k (by decide), rd_e]; rfl
  · funext j
    rw [rd_n (by omega), rd_n (by omega), rd_n (by omega)]
  · funext j
    rw [rd_n (by omega), rd_n (by omega), rd_n (by omega)]
  · rw [rd_k (by decide), rd_k (by decide), rd_e]
  · show _ ↔ ¬ (tellD S.1 S.2.1 S.2.2.1).1 6 j = 0
    rw [o2 j, tell6 h9 j1 j2, x8 j j1 j2]
    by_cases e : j = S.1
    · rw [if_pos e]
      exact ⟨fun _ => by decide, fun _ => Or.inr e⟩
    · rw [if_neg e]
      exact ⟨fun h => h.elim id (fun h => absurd h e), Or.inl⟩
  · have f1 : rdf p w w1 := ⟨fun q _ _ h3 => t3 q h3, by rw [e1], t4⟩
    exact f1.trans ((rdf.up _ _ (Or.inl ⟨rfl, by decide⟩) hp).trans ((rdf.up _ _ (Or.inl ⟨rfl, by decide⟩) hp).trans (rdf.up _ _ (Or.inl ⟨rfl, by decide⟩) hp)))
theorem s_tell (hp : scp p) (X : XD p S w) (ok : okS S) (h0 : S.1 ≠ 0) (hw : whl S.1 S.2.1 = true) :
    ∃ w1, sem (d + 4) 30 [.ref 1, .ref p] w = some (none, updI w1 1 10 ((w1.1 1 10) ||| ((1 : Int32) <<< ((w1.1 1 6) &&& 31)))) ∧ tlI p (tellD S.1 S.2.1 S.2.2.1) w w1 := by
  have hpp : p = 20 ∨ p = 27 := hp
  obtain ⟨x1, x2, x3, x4, x5, x6⟩ := X
  obtain ⟨ok1, ok2⟩ := ok
  obtain ⟨k, ns, ⟨c, fr⟩, it⟩ := S
  dsimp only at *
  obtain ⟨k1, k2, k3⟩ := ok2.resolve_left h0
  obtain ⟨y1, y2⟩ := x2 h0
  have hw := of_decide_eq_true hw
  have hlen := okN_len k3
  have rd := fun (j : Nat) (hj : j < 5) (w : Wd) => s_at (d := d + 2) (a := 3) (k := j) (w := w) rfl (by show j < 5; exact hj)
  have neq : ∀ j, j < 10 → k ≠ j → ¬ (w.1 1 6) = nI j := fun j hj hne h => hne ((nI_eq (by omega) (by omega)).mp (x1.symm.trans h))
  have r0 := rd 0 (by decide) w
  have one : 7 ≤ k ∨ k = 6 → ns.length = 1 := fun h => hw.elim (fun h5 => by omega) (fun h1 => by rw [if_neg (by omega)] at h1; exact h1)
  rcases (by omega : k = 4 ∨ k = 5 ∨ k = 6 ∨ k = 7 ∨ k = 8 ∨ k = 9) with rfl | rfl | rfl | rfl | rfl | rfl
  · have g0 : c 0 0 < 5 := of_decide_eq_true k2
    have gl : ns.length = 4 := hw.elim (fun h => absurd h (by decide)) id
    match ns, gl, y2 with
    | [f, l, g, e], _, y2 =>
      have z3 : w.1 3 3 = nI f := y2 0 (by show 0 < 4; decide)
      have z2 : w.1 3 2 = nI l := y2 1 (by show 1 < 4; decide)
      have z1 : w.1 3 1 = nI g := y2 2 (by show 2 < 4; decide)
      have z0 : w.1 3 0 = nI e := y2 3 (by show 3 < 4; decide)
      have r1 := rd 1 (by decide) w
      have r2 := rd 2 (by decide) w
      have r3 := rd 3 (by decide) w
      rw [z0] at r0
      rw [z1] at r1
      rw [z2] at r2
      rw [z3] at r3
      obtain ⟨w1, a1, a2⟩ := t_spell (d := d + 1) (e := e) (g := g) (l := l) (f := f) hp x4 x5 g0
      exact ⟨w1, e_X3_tell.trans (p_X3_tell_0S4_R hp r0 x1 r1 r2 r3 a1), a2⟩
  · obtain ⟨w1, a1, a2⟩ := t_thing (d := d + 1) (ns := ns) hp x4 x5 (of_decide_eq_true k2)
    exact ⟨w1, e_X3_tell.trans (p_X3_tell_0S5_R hp r0 x1 (s_gathered (d := d + 1) hlen y1 y2) a1), a2⟩
  · match ns, one (Or.inr rfl), y2 with
    | [v], _, y2 =>
      have z0 : w.1 3 0 = nI v := y2 0 (by show 0 < 1; decide)
      rw [z0] at r0
      obtain ⟨w1, a1, a2⟩ := t_pupil (d := d + 1) (v := v) hp x4 x5 (of_decide_eq_true k2)
      exact ⟨w1, e_X3_tell.trans (p_X3_tell_0S6_R hp r0 x1 a1), a2⟩
  · match ns, one (Or.inl (by decide)), y2 with
    | [v], _, y2 =>
      have z0 : w.1 3 0 = nI v := y2 0 (by show 0 < 1; decide)
      rw [z0] at r0
      exact ⟨_, e_X3_tell.trans (p_X3_tell_0S7_R hp r0 x1 (e_X5_setSwapCost.trans (p_X5_setSwapCost_0_R hp))), t_cost (k := 7) x4 x5 (by decide) (by decide)⟩
  · match ns, one (Or.inl (by decide)), y2 with
    | [v], _, y2 =>
      have z0 : w.1 3 0 = nI v := y2 0 (by show 0 < 1; decide)
      rw [z0] at r0
      exact ⟨_, e_X3_tell.trans (p_X3_tell_0S8_R hp r0 x1 (e_X5_setCopyCost.trans (p_X5_setCopyCost_0_R hp))), t_cost (k := 8) x4 x5 (by decide) (by decide)⟩
  · match ns, one (Or.inl (by decide)), y2 with
    | [v], _, y2 =>
      have z0 : w.1 3 0 = nI v := y2 0 (by show 0 < 1; decide)
      rw [z0] at r0
      exact ⟨_, e_X3_tell.trans (p_X3_tell_0Sd_R hp r0 (neq 4 (by decide) (by decide)) (neq 5 (by decide) (by decide)) (neq 6 (by decide) (by decide)) (neq 7 (by decide) (by decide)) (neq 8 (by decide) (by decide)) (e_X5_setHumDepth.trans (p_X5_setHumDepth_0_R hp))), t_cost (k := 9) x4 x5 (by decide) (by decide)⟩
/-- a token taken, or not -/
def accI (p : Nat) (w : Wd) (o : Option PS) (x : Int32) (w2 : Wd) : Prop :=
  rdf p w w2 ∧ w2.1 1 2 = w.1 1 2 ∧ w2.1 1 4 = w.1 1 4 ∧ match o with
    | none => x = 0
    | some S2 => x = 1 ∧ XD p S2 w2
theorem accI.no (w : Wd) : accI p w none 0 w := ⟨rdf.refl p w, rfl, rfl, rfl⟩
theorem s_closes (hp : scp p) (X : XD p S w) (ok : okS S) : ∃ x w2, sem (d + 5) 29 [.ref 1, .ref p] w = some (some (.int x), w2) ∧ accI p w (if S.1 ≠ 0 ∧ whl S.1 S.2.1 = true then some (0, S.2.1, tellD S.1 S.2.1 S.2.2.1, S.2.2.2 + 1) else none) x w2 := by
  have hpp : p = 20 ∨ p = 27 := hp
  have X0 := X
  obtain ⟨x1, x2, x3, x4, x5, x6⟩ := X
  have hk9 : S.1 ≤ 9 := ok.2.elim (fun h => by omega) (fun h => h.1.2)
  have neq : ∀ j, j < 10 → S.1 ≠ j → ¬ (w.1 1 6) = nI j := fun j hj hne h => hne ((nI_eq (by omega) (by omega)).mp (x1.symm.trans h))
  by_cases h0 : S.1 = 0
  · rw [if_neg (fun h => h.1 h0)]
    have g0 : (w.1 1 6) = 0 := by rw [x1, h0]; rfl
    have g5 := neq 5 (by decide) (by omega)
    have g4 := neq 4 (by decide) (by omega)
    by_cases h1 : (w.1 1 8) = 1
    · exact ⟨0, w, e_X3_closesItem.trans (p_X3_closesItem_0FTFT_R hp g5 g4 h1 g0), accI.no w⟩
    · exact ⟨0, w, e_X3_closesItem.trans (p_X3_closesItem_0FTTT_R hp g5 g4 h1 g0), accI.no w⟩
  · obtain ⟨y1, y2⟩ := x2 h0
    obtain ⟨k1, k2, k3⟩ := ok.2.resolve_left h0
    have hlen := okN_len k3
    have g0 := neq 0 (by decide) h0
    have z9 : ∀ w1 : Wd, tlI p (tellD S.1 S.2.1 S.2.2.1) w w1 → (updI (updI w1 1 10 ((w1.1 1 10) ||| ((1 : Int32) <<< ((w1.1 1 6) &&& 31)))) 1 6 0).1 1 9 + 1 = nI (S.2.2.2 + 1) := fun w1 T => by
      rw [rd_k (by decide), rd_k (by decide), T.2.2.1 1 (by omega), x3, nI_1]
    have z9' : ∀ w1 : Wd, tlI p (tellD S.1 S.2.1 S.2.2.1) w w1 → (updI w1 1 10 ((w1.1 1 10) ||| ((1 : Int32) <<< ((w1.1 1 6) &&& 31)))).1 1 9 + 1 = nI (S.2.2.2 + 1) := fun w1 T => by
      rw [rd_k (by decide), T.2.2.1 1 (by omega), x3, nI_1]
    by_cases hw : whl S.1 S.2.1 = true
    · rw [if_pos ⟨h0, hw⟩]
      obtain ⟨w1, a1, a2⟩ := s_tell (d := d) hp X0 ok h0 hw
      obtain ⟨b1, b2⟩ := told_XD hp X0 k1 a2
      have q2 : (updI (updI (updI w1 1 10 ((w1.1 1 10) ||| ((1 : Int32) <<< ((w1.1 1 6) &&& 31)))) 1 6 0) 1 9 (nI (S.2.2.2 + 1))).1 1 2 = w.1 1 2 := by
        rw [rd_k (by decide), rd_k (by decide), rd_k (by decide), a2.2.2.1 1 (by omega)]
      have q4 : (updI (updI (updI w1 1 10 ((w1.1 1 10) ||| ((1 : Int32) <<< ((w1.1 1 6) &&& 31)))) 1 6 0) 1 9 (nI (S.2.2.2 + 1))).1 1 4 = w.1 1 4 := by
        rw [rd_k (by decide), rd_k (by decide), rd_k (by decide), a2.2.2.1 1 (by omega)]
      refine ⟨1, _, ?_, b2, q2, q4, rfl, b1⟩
      have hw := of_decide_eq_true hw
      by_cases h5 : S.1 = 5
      · have t := p_X3_closesItem_0TFT_R hp (by rw [x1, h5]; rfl) g0 (by decide) a1
        rw [z9' w1 a2] at t
        exact e_X3_closesItem.trans t
      · have g5 := neq 5 (by decide) h5
        by_cases h4 : S.1 = 4
        · have hl : S.2.1.length = 4 := hw.elim (fun h => absurd h h5) (fun h => by rw [if_pos h4] at h; exact h)
          have t := p_X3_closesItem_0FFFFT_R hp g5 (by rw [x1, h4]; rfl) (by rw [y1, hl]; rfl) g0 (by decide) a1
          rw [z9' w1 a2] at t
          exact e_X3_closesItem.trans t
        · have hl : S.2.1.length = 1 := hw.elim (fun h => absurd h h5) (fun h => by rw [if_neg h4] at h; exact h)
          have t := p_X3_closesItem_0FTFFT_R hp g5 (neq 4 (by decide) h4) (by rw [y1, hl]; rfl) g0 (by decide) a1
          rw [z9' w1 a2] at t
          exact e_X3_closesItem.trans t
    · rw [if_neg (fun h => hw h.2)]
      have hw : ¬ (S.1 = 5 ∨ S.2.1.length = if S.1 = 4 then 4 else 1) := fun h => hw (decide_eq_true h)
      have h5 : S.1 ≠ 5 := fun h => hw (Or.inl h)
      have g5 := neq 5 (by decide) h5
      by_cases h4 : S.1 = 4
      · have hl : S.2.1.length ≠ 4 := fun h => hw (Or.inr (by rw [if_pos h4]; exact h))
        exact ⟨0, w, e_X3_closesItem.trans (p_X3_closesItem_0FFTFF_R hp g5 (by rw [x1, h4]; rfl) (by rw [y1]; exact fun h => hl ((nI_eq (b := 4) (by omega) (by decide)).mp h)) g0 rfl), accI.no w⟩
      · have hl : S.2.1.length ≠ 1 := fun h => hw (Or.inr (by rw [if_neg h4]; exact h))
        exact ⟨0, w, e_X3_closesItem.trans (p_X3_closesItem_0FTTFF_R hp g5 (neq 4 (by decide) h4) (by rw [y1]; exact fun h => hl ((nI_eq (b := 1) (by omega) (by decide)).mp h)) g0 rfl), accI.no w⟩
theorem s_addsNumber {v : Nat} (hp : scp p) (X : XD p S w) (ok : okS S) (hv : v < 2 ^ 31) (V : w.1 1 5 = nI v) : ∃ x w2, sem (d + 3) 27 [.ref 1, .ref p] w = some (some (.int x), w2) ∧ accI p w (if canNx S.2.2.1.1 S.1 S.2.1 v = true then some (S.1, v :: S.2.1, S.2.2.1, S.2.2.2) else none) x w2 := by
  have hpp : p = 20 ∨ p = 27 := hp
  have X0 := X
  obtain ⟨x1, x2, x3, x4, x5, x6⟩ := X
  by_cases h0 : S.1 = 0
  · have e : canNx S.2.2.1.1 S.1 S.2.1 v = false := by rw [h0]; rfl
    have g0 : (w.1 1 6) = nI 0 := by rw [x1, h0]
    rw [if_neg (by rw [e]; decide)]
    have neq : ∀ j, j < 10 → 0 ≠ j → ¬ (w.1 1 6) = nI j := fun j hj hne h => hne ((nI_eq (by omega) (by omega)).mp (g0.symm.trans h))
    have e1 : sem (d + 2) 28 [.ref 1, .ref p] w = some (some (.int 0), w) := e_X3_canBeNext.trans (p_X3_canBeNext_0Sd_R hp (neq 4 (by omega) (by omega)) (neq 5 (by omega) (by omega)) (neq 6 (by omega) (by omega)) (neq 7 (by omega) (by omega)) (neq 8 (by omega) (by omega)) (neq 9 (by omega) (by omega)))
    exact ⟨0, w, e_X3_addsNumber.trans (p_X3_addsNumber_0F_R hp e1 rfl), accI.no w⟩
  · obtain ⟨k1, k2, k3⟩ := ok.2.resolve_left h0
    obtain ⟨y1, y2⟩ := x2 h0
    have hlen := okN_len k3
    have e1 := s_canBeNext (d := d) hp X0 ok.1.1 (Or.inr k1) (by omega) hv V
    by_cases hc : canNx S.2.2.1.1 S.1 S.2.1 v = true
    · rw [b2i_t hc] at e1
      rw [if_pos hc]
      have h5 := canNx5 hc
      have a1 := s_put (d := d + 1) (a := 3) (k := S.2.1.length) (x := nI v) (w := w) rfl (by show _ < 5; exact h5)
      have t := p_X3_addsNumber_0T_R hp e1 (by decide) (by rw [y1, V]; exact a1)
      rw [rd_n (show 1 ≠ 3 by decide), y1, nI_1] at t
      refine ⟨1, _, e_X3_addsNumber.trans t, (rdf.up w _ (Or.inr (Or.inl rfl)) hp).trans (rdf.up _ _ (Or.inl ⟨rfl, by decide⟩) hp), ?_, ?_, rfl, ?_, fun _ => ⟨rd_e, fun i hi => ?_⟩, ?_, x4.same (fun q h1 h2 => ?_), x5.same ?_, ?_⟩
      · rw [rd_k (by decide), rd_n (by decide)]
      · rw [rd_k (by decide), rd_n (by decide)]
      · rw [rd_k (by decide), rd_n (by decide)]; exact x1
      · rw [rd_n (by decide)]
        cases i with
        | zero => exact rd_e
        | succ i =>
          have hi : i + 1 < S.2.1.length + 1 := hi
          show (updI w 3 S.2.1.length (nI v)).1 3 (S.2.1.length + 1 - 1 - (i + 1)) = nI (S.2.1.getD i 0)
          rw [rd_k (by omega), ← y2 i (by omega), show S.2.1.length + 1 - 1 - (i + 1) = S.2.1.length - 1 - i by omega]
      · rw [rd_k (by decide), rd_n (by decide)]; exact x3
      · funext j
        rw [rd_n (by omega), rd_n (by omega)]
      · funext j
        rw [rd_n (by omega), rd_n (by omega)]
      · rw [rd_k (by decide), rd_n (by decide)]; exact x6
    · have hcf : canNx S.2.2.1.1 S.1 S.2.1 v = false := by
        cases h : canNx S.2.2.1.1 S.1 S.2.1 v with
        | false => rfl
        | true => exact absurd h hc
      rw [b2i_f hcf] at e1
      rw [if_neg hc]
      exact ⟨0, w, e_X3_addsNumber.trans (p_X3_addsNumber_0F_R hp e1 rfl), accI.no w⟩
theorem s_opens {k : Nat} (hp : scp p) (X : XD p S w) (ok : okS S) (hk : 4 ≤ k ∧ k ≤ 9) (K : w.1 1 3 = nI k) : ∃ x w2, sem (d + 3) 25 [.ref 1, .ref p] w = some (some (.int x), w2) ∧ accI p w (if S.1 = 0 ∧ canOp S.2.2.1.1 k = true then some (k, [], S.2.2.1, S.2.2.2) else none) x w2 := by
  have hpp : p = 20 ∨ p = 27 := hp
  have X0 := X
  obtain ⟨x1, x2, x3, x4, x5, x6⟩ := X
  have hk9 : S.1 ≤ 9 := ok.2.elim (fun h => by omega) (fun h => h.1.2)
  by_cases h0 : S.1 = 0
  · have g0 : (w.1 1 6) = 0 := by rw [x1, h0]; rfl
    have e1 := s_hasPlace (d := d) hp X0 ok.1.1 hk K
    cases hc : canOp S.2.2.1.1 k with
    | false =>
      rw [b2i_f hc] at e1
      rw [if_neg (fun h => absurd h.2 (by decide))]
      exact ⟨0, w, e_X3_opensItem.trans (p_X3_opensItem_0FF_R hp g0 e1 rfl), accI.no w⟩
    | true =>
      rw [b2i_t hc] at e1
      rw [if_pos ⟨h0, rfl⟩]
      refine ⟨1, _, e_X3_opensItem.trans (p_X3_opensItem_0FT_R hp g0 e1 (by decide)), (rdf.up w _ (Or.inl ⟨rfl, by decide⟩) hp).trans (rdf.up _ _ (Or.inl ⟨rfl, by decide⟩) hp), ?_, ?_, rfl, ?_, fun _ => ⟨rd_e, fun i hi => absurd hi (Nat.not_lt_zero _)⟩, ?_, x4.same (fun q h1 h2 => ?_), x5.same ?_, ?_⟩
      · rw [rd_k (by decide), rd_k (by decide)]
      · rw [rd_k (by decide), rd_k (by decide)]
      · rw [rd_k (by decide), rd_e]; exact K
      · rw [rd_k (by decide), rd_k (by decide)]; exact x3
      · funext j
        rw [rd_n (by omega), rd_n (by omega)]
      · funext j
        rw [rd_n (by omega), rd_n (by omega)]
      · rw [rd_k (by decide), rd_k (by decide)]; exact x6
  · rw [if_neg (fun h => h0 h.1)]
    have g0 : ¬ (w.1 1 6) = 0 := fun h => h0 ((nI_eq (b := 0) (by omega) (by decide)).mp (x1.symm.trans h))
    exact ⟨0, w, e_X3_opensItem.trans (p_X3_opensItem_0T_R hp g0), accI.no w⟩
theorem s_accepts {k v : Nat} (hp : scp p) (X : XD p S w) (ok : okS S) (hk : k ≤ 9) (K : w.1 1 3 = nI k) (hv : v < 2 ^ 31) (V : k = 3 → w.1 1 5 = nI v) : ∃ x w2, sem (d + 6) 24 [.ref 1, .ref p] w = some (some (.int x), w2) ∧ accI p w (stepP k v S) x w2 := by
  have c01 : ∀ {o : Option PS} {x : Int32} {w2 : Wd}, accI p w o x w2 → x = 0 ∨ x = 1 := fun {o x w2} h => by
    cases o with
    | none => exact Or.inl h.2.2.2
    | some S2 => exact Or.inr h.2.2.2.1
  unfold stepP
  rcases (by omega : k = 0 ∨ k = 1 ∨ k = 2 ∨ k = 3 ∨ 4 ≤ k) with rfl | rfl | rfl | rfl | h4
  · rw [if_pos (by decide)]
    exact ⟨0, w, e_X3_accepts.trans (p_X3_accepts_0S0_R hp K), accI.no w⟩
  · rw [if_pos (by decide)]
    exact ⟨0, w, e_X3_accepts.trans (p_X3_accepts_0S1_R hp K), accI.no w⟩
  · rw [if_neg (by decide), if_pos rfl]
    obtain ⟨x, w2, a1, a2⟩ := s_closes (d := d) hp X ok
    exact ⟨x, w2, e_X3_accepts.trans (p_X3_accepts_0S2_R hp K a1 (c01 a2)), a2⟩
  · rw [if_neg (by decide), if_neg (by decide), if_pos rfl]
    obtain ⟨x, w2, a1, a2⟩ := s_addsNumber (d := d + 2) hp X ok hv (V rfl)
    exact ⟨x, w2, e_X3_accepts.trans (p_X3_accepts_0S3_R hp K a1 (c01 a2)), a2⟩
  · rw [if_neg (by omega), if_neg (by omega), if_neg (by omega)]
    obtain ⟨x, w2, a1, a2⟩ := s_opens (d := d + 2) hp X ok ⟨h4, hk⟩ K
    have neq : ∀ j, j < 4 → ¬ (w.1 1 3) = nI j := fun j hj h => by
      have := (nI_eq (a := k) (b := j) (by omega) (by omega)).mp (K.symm.trans h)
      omega
    exact ⟨x, w2, e_X3_accepts.trans (p_X3_accepts_0Sd_R hp (neq 0 (by decide)) (neq 1 (by decide)) (neq 2 (by decide)) (neq 3 (by decide)) a1 (c01 a2)), a2⟩
theorem wdK_le (l : List Nat) : wdK l ≤ 9 := by
  unfold wdK
  repeat' split
  all_goals decide
theorem tkK_le (bt : Nat → Nat) (n i : Nat) : tkK bt n i ≤ 9 := by
  unfold tkK tqK
  split
  · decide
  · split
    · unfold dgK
      split <;> decide
    · split
      · exact wdK_le _
      · split <;> decide
theorem vaE_le (bt : Nat → Nat) : ∀ m i v, v ≤ 100 → vaE bt m i v ≤ 100 := by
  intro m
  induction m with
  | zero => intro i v h; exact h
  | succ m ih =>
    intro i v h
    unfold vaE
    split
    · exact ih _ _ (Nat.min_le_right _ _)
    · exact h
theorem tkV_le (bt : Nat → Nat) (n i : Nat) : tkV bt n i ≤ 100 := vaE_le bt _ _ _ (by decide)
theorem l_read {bt : Nat → Nat} {n : Nat} (hp : scp p) (ho : okt bt n) : ∀ (m t i : Nat) (S : PS) (w : Wd), m + t = 301 → i ≤ n → XT bt n w → XD p S w → okS S → w.1 1 2 = nI i →
    ∃ x w2, runs (T_X3_read (sem (d + 7))) (26, [.ref 1, .ref p, .int (nI t)], [], w) = some (some (.int x), w2) ∧ rdf p w w2 ∧ match prs bt n m i S with
      | .inl f => x = -10 - nI f
      | .inr S2 => x = nI S2.2.2.2 ∧ XD p S2 w2 ∧ okS S2 := by
  have h3 := ho.1
  intro m
  induction m with
  | zero =>
    intro t i S w ht hi T X ok W2
    refine ⟨_, w, p_X3_read_26T_R hp (nI_lt (a := 300) (by omega) (by omega)), rdf.refl p w, ?_⟩
    show -10 - w.1 1 1 = -10 - nI n
    rw [T.1]
  | succ m ih =>
    intro t i S w ht hi T X ok W2
    have k1 : ¬ (300 : Int32) < nI t := nI_nlt (a := 300) (b := t) (by omega) (by decide)
    obtain ⟨w1, a1, a2, a3, a4, a5, a6⟩ := s_readToken (d := d) ho T hi W2
    obtain ⟨t1, t2, t3, t4, t5⟩ := tk_adv (bt := bt) hi
    have X1 := X.tkf hp a2
    have T1 := T.tkf a2
    have K9 := tkK_le bt n i
    have hk9 : S.1 ≤ 9 := ok.2.elim (fun h => by omega) (fun h => h.1.2)
    have hv := tkV_le bt n i
    have e0 : prs bt n (m + 1) i S = if tkK bt n i = 1 ∧ S.1 = 0 then .inr S else match stepP (tkK bt n i) (tkV bt n i) S with
      | none => .inl (tkS bt n i)
      | some S2 => prs bt n m (tkE bt n i) S2 := rfl
    rw [e0]
    by_cases hend : tkK bt n i = 1 ∧ S.1 = 0
    · rw [if_pos hend]
      have g1 : (w1.1 1 3) = 1 := by rw [a5, hend.1]; rfl
      have g2 : (w1.1 1 6) = 0 := by rw [X1.1, hend.2]; rfl
      refine ⟨_, w1, p_X3_read_26FFF_R hp k1 a1 g1 g2, a2.rdf hp, X1.2.2.1, X1, ok⟩
    · rw [if_neg hend]
      obtain ⟨x, w2, b1, b2, b3, b4, b5⟩ := s_accepts (d := d + 1) hp X1 ok K9 a5 (v := tkV bt n i) (by omega) a6
      have R := (a2.rdf hp).trans b2
      cases hst : stepP (tkK bt n i) (tkV bt n i) S with
      | none =>
        rw [hst] at b5
        have b5 : x = 0 := b5
        have e4 : -10 - w2.1 1 4 = -10 - nI (tkS bt n i) := by rw [b4, a3]
        by_cases h1 : tkK bt n i = 1
        · have g1 : (w1.1 1 3) = 1 := by rw [a5, h1]; rfl
          have g2 : ¬ (w1.1 1 6) = 0 := fun h => hend ⟨h1, (nI_eq (b := 0) (by omega) (by decide)).mp (X1.1.symm.trans h)⟩
          exact ⟨_, w2, p_X3_read_26FFTF_R hp k1 a1 g1 g2 b1 b5, R, e4⟩
        · have g1 : ¬ (w1.1 1 3) = 1 := fun h => h1 ((nI_eq (b := 1) (by omega) (by decide)).mp (a5.symm.trans h))
          exact ⟨_, w2, p_X3_read_26FTF_R hp k1 a1 g1 b1 b5, R, e4⟩
      | some S2 =>
        rw [hst] at b5
        obtain ⟨b5, b6⟩ := b5
        have b7 : ¬ x = 0 := by rw [b5]; decide
        have h1 : tkK bt n i ≠ 1 := fun h => by
          rw [h] at hst
          unfold stepP at hst
          rw [if_pos (by decide)] at hst
          exact absurd hst (by simp)
        have g1 : ¬ (w1.1 1 3) = 1 := fun h => h1 ((nI_eq (b := 1) (by omega) (by decide)).mp (a5.symm.trans h))
        obtain ⟨y, w3, c1, c2, c3⟩ := ih (t + 1) (tkE bt n i) S2 w2 (by omega) t3 (T1.rdf hp b2) b6 (step_ok ok K9 hst) (by rw [b3, a4])
        rw [← nI_1] at c1
        exact ⟨y, w3, (p_X3_read_26FTT_L26 hp k1 a1 g1 b1 b7).trans c1, R.trans c2, c3⟩
theorem s_beNew (hp : scp p) : ∃ w2, sem (d + 2) 46 [.ref p] w = some (none, w2) ∧ XS p bgD.1 w2 ∧ XF p bgD.2 w2 ∧ (∀ q, q < p ∨ p + 7 ≤ q → w2.1 q = w.1 q) ∧ w2.2 = w.2 := by
  have hpp : p = 20 ∨ p = 27 := hp
  have a1 := s_fill (d := d) (a := p + 5) (v := 0) (w := updI (updI (updI (updI (updI (updI w p 6 0) p 7 0) p 8 0) p 9 1) p 10 1) p 11 4) hp.c.2.2.2.2.1
  have hl := hp.l.2.2.2.2.1
  rw [hl] at a1
  refine ⟨_, e_X5_beNew.trans (p_X5_beNew_0_R hp a1), ⟨?_, ?_, ?_, ?_, ?_, ?_, fun s hs => absurd hs (Nat.not_lt_zero _), fun q hq => absurd hq (Nat.not_lt_zero _)⟩, fun t ht => ?_, fun q hq => ?_, rfl⟩
  · rw [filW_ne _ _ _ (by omega), rd_k (by decide), rd_k (by decide), rd_k (by decide), rd_k (by decide), rd_k (by decide), rd_e]; rfl
  · rw [filW_ne _ _ _ (by omega), rd_k (by decide), rd_k (by decide), rd_k (by decide), rd_k (by decide), rd_e]; rfl
  · rw [filW_ne _ _ _ (by omega), rd_k (by decide), rd_k (by decide), rd_k (by decide), rd_e]; rfl
  · rw [filW_ne _ _ _ (by omega), rd_k (by decide), rd_k (by decide), rd_e]; rfl
  · rw [filW_ne _ _ _ (by omega), rd_k (by decide), rd_e]; rfl
  · rw [filW_ne _ _ _ (by omega), rd_e]; rfl
  · rw [filW_at _ _ _ _ ht]; rfl
  · rw [filW_ne _ _ _ (by omega)]
    funext j
    rw [rd_n (by omega), rd_n (by omega), rd_n (by omega), rd_n (by omega), rd_n (by omega), rd_n (by omega)]
theorem s_read {bt : Nat → Nat} {n : Nat} (hp : scp p) (ho : okt bt n) (T : XT bt n w) : ∃ x w2, sem (d + 8) 23 [.ref 1, .ref p] w = some (some (.int x), w2) ∧ rdf p w w2 ∧ match prs bt n 301 0 (0, [], bgD, 0) with
      | .inl f => x = -10 - nI f
      | .inr S2 => x = nI S2.2.2.2 ∧ XD p S2 w2 ∧ okS S2 := by
  have hpp : p = 20 ∨ p = 27 := hp
  obtain ⟨w1, a1, a2, a3, a4, a5⟩ := s_beNew (d := d + 5) (w := w) hp
  have f1 : rdf p w w1 := ⟨fun q _ _ h3 => a4 q h3, by rw [a4 1 (by omega)], a5⟩
  have f2 : rdf p w1 (updI (updI (updI (updI w1 1 2 0) 1 6 0) 1 9 0) 1 10 0) := (rdf.up _ _ (Or.inl ⟨rfl, by decide⟩) hp).trans ((rdf.up _ _ (Or.inl ⟨rfl, by decide⟩) hp).trans ((rdf.up _ _ (Or.inl ⟨rfl, by decide⟩) hp).trans (rdf.up _ _ (Or.inl ⟨rfl, by decide⟩) hp)))
  have g0 : ∀ q, q ≠ 1 → (updI (updI (updI (updI w1 1 2 0) 1 6 0) 1 9 0) 1 10 0).1 q = w1.1 q := fun q h => by
    funext j
    rw [rd_n h, rd_n h, rd_n h, rd_n h]
  obtain ⟨x, w2, b1, b2, b3⟩ := l_read (d := d) hp ho 301 0 0 (0, [], bgD, 0) _ (by omega) (Nat.zero_le _) (T.rdf hp (f1.trans f2)) ⟨by rw [rd_k (by decide), rd_k (by decide), rd_e]; rfl, fun h => absurd rfl h, by rw [rd_k (by decide), rd_e]; rfl, a2.same (fun q h1 h2 => g0 q (by omega)), a3.same (g0 _ (by omega)), 0, by decide, by rw [rd_e]; rfl, fun j _ _ => by rw [Nat.zero_testBit]; exact ⟨fun h => absurd h (by decide), fun h => absurd rfl h⟩⟩ ⟨okD_new, Or.inl rfl⟩ (by rw [rd_k (by decide), rd_k (by decide), rd_k (by decide), rd_e]; rfl)
  exact ⟨x, w2, e_X3_read.trans ((p_X3_read_0_L26 hp a1).trans b1), (f1.trans f2).trans b2, b3⟩
end XREAD2

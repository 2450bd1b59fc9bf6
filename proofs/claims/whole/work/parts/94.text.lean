/-! type, school agree -/
/-- a byte of a long, as the class takes it, as the reference takes it -/
def cB (v : Int64) (x : Int32) : Int32 := (((v.toUInt64 >>> ((8 * x).toInt64.toUInt64 &&& Int64.toUInt64 63)).toInt64).toInt32) &&& 255
def rB (v : Int64) (x : Int32) : Int32 := ((v >>> ((8 * x).toInt64 &&& 63)) &&& 255).toInt32
theorem b255 : ∀ j, j < 32 → (255#32).getLsbD j = decide (j < 8) ∧ (255#64).getLsbD j = decide (j < 8) := by decide
theorem byte_bits {a b : BitVec 32} {u : BitVec 64} {s : Nat} (hs : s ≤ 56) (ha : a = (u.ushiftRight s).signExtend 32 &&& 255#32) (hb : b = ((u.sshiftRight s) &&& 255#64).signExtend 32) : a = b := by
  rw [ha, hb, BitVec.signExtend_eq_setWidth_of_le _ (by decide), BitVec.signExtend_eq_setWidth_of_le _ (by decide)]
  apply BitVec.eq_of_getLsbD_eq
  intro j hj
  obtain ⟨q1, q2⟩ := b255 j hj
  have e1 : (u.ushiftRight s).getLsbD j = u.getLsbD (s + j) := BitVec.getLsbD_ushiftRight u s j
  rw [BitVec.getLsbD_and, BitVec.getLsbD_setWidth, BitVec.getLsbD_setWidth, BitVec.getLsbD_and, q1, q2, e1, BitVec.getLsbD_sshiftRight]
  by_cases h8 : j < 8
  · have h1 : s + j < 64 := by omega
    have h2 : ¬ 64 ≤ j := by omega
    simp [h8, hj, h1, h2]
  · simp [h8]
theorem cB_rB : ∀ (v : Int64) (i : Nat), i < 8 → cB v (nI i) = rB v (nI i) := by
  intro v i hi
  apply Int32.toBitVec_inj.1
  match i, hi with
  | 0, _ => exact byte_bits (u := v.toBitVec) (s := 0) (by decide) rfl rfl
  | 1, _ => exact byte_bits (u := v.toBitVec) (s := 8) (by decide) rfl rfl
  | 2, _ => exact byte_bits (u := v.toBitVec) (s := 16) (by decide) rfl rfl
  | 3, _ => exact byte_bits (u := v.toBitVec) (s := 24) (by decide) rfl rfl
  | 4, _ => exact byte_bits (u := v.toBitVec) (s := 32) (by decide) rfl rfl
  | 5, _ => exact byte_bits (u := v.toBitVec) (s := 40) (by decide) rfl rfl
  | 6, _ => exact byte_bits (u := v.toBitVec) (s := 48) (by decide) rfl rfl
  | 7, _ => exact byte_bits (u := v.toBitVec) (s := 56) (by decide) rfl rfl
noncomputable def byt (v : Int64) (i : Nat) : Nat := (cB v (nI i)).toBitVec.toNat
theorem cB_byt (v : Int64) (i : Nat) : cB v (nI i) = nI (byt v i) ∧ byt v i < 256 := by
  obtain ⟨j, j1, j2⟩ := pk_andE ((((v.toUInt64 >>> ((8 * nI i).toInt64.toUInt64 &&& Int64.toUInt64 63)).toInt64).toInt32)) (m := 255) 8 (by decide)
  have e : cB v (nI i) = nI j := j2
  unfold byt
  rw [e, pk_tn (by omega)]
  exact ⟨rfl, j1⟩
def ub (bt : Nat → Nat) (n b : Nat) : Nat → Nat := fun k => if k = n then b else bt k
noncomputable def tyT (v : Int64) : Nat → Nat → (Nat → Nat) → Nat → Nat
  | 0, _, bt => bt
  | m + 1, n, bt => tyT v m (n + 1) (ub bt n (byt v m))
theorem okt_ub {bt : Nat → Nat} {n b : Nat} (h : okt bt n) (hn : n < 300) (hb : b < 256) : okt (ub bt n b) (n + 1) := by
  refine ⟨by omega, fun i hi => ?_⟩
  unfold ub
  split
  · exact hb
  · exact h.2 i (by omega)
theorem m1_i (m : Nat) : nI m + (-1) = nI m - 1 := by
  cases m with
  | zero => decide
  | succ m => rw [pk_m1, nI_pred]
section TEXT
variable {p : Nat} {c : Nat → Nat → Nat} {rs : Nat → List Nat} {sp : Nat} {us : List (Nat × List Nat × Nat)} {im : Nat → Option ((Nat → List Nat) × Nat)} {ht : List (Nat × Nat)} {bt : Nat → Nat} {n : Nat} {tr : Int64} {w w2 : Wd}
theorem l_xtype {v : Int64} {d : Nat} : ∀ (m n : Nat) (bt : Nat → Nat) (v3 : Value) (w : Wd), m ≤ 8 → n + m ≤ 300 → XT bt n w → okt bt n →
    ∃ w2, runs (T_X8_type (sem (d + 2))) (32, [.ref 0, .long v, .null, v3, .int (nI m - 1)], [], w) = some (some (.int (nI (n + m))), w2) ∧ frm 1 3 w w2 ∧ XT (tyT v m n bt) (n + m) w2 ∧ okt (tyT v m n bt) (n + m) := by
  intro m
  induction m with
  | zero =>
    intro n bt v3 w _ _ T ho
    exact ⟨w, p_X8_type_32T_R (by decide) (s_len (d := d + 1) T), frm.refl _ _ _, T, ho⟩
  | succ m ih =>
    intro n bt v3 w h8 hn T ho
    have e0 : nI (m + 1) - 1 = nI m := nI_pred m
    obtain ⟨b1, b2⟩ := cB_byt v m
    have e1 := s_put (d := d) (a := 2) (k := n) (x := nI (byt v m)) (w := w) rfl (by show n < 300; omega)
    rw [← T.1] at e1
    have t1 := p_X3_add_0F_R (ex := sem (d + 1)) (x1 := nI (byt v m)) (w := w) (by rw [T.1]; exact nI_ge (b := 300) (by omega) (by decide)) e1
    rw [rd_n (show 1 ≠ 2 by decide), T.1, nI_1] at t1
    have e2 : sem (d + 2) 22 [.ref 1, .int (cB v (nI m))] w = some (none, updI (updI w 2 n (nI (byt v m))) 1 1 (nI (n + 1))) := by
      rw [b1]; exact e_X3_add.trans t1
    have f1 : frm 1 3 w (updI (updI w 2 n (nI (byt v m))) 1 1 (nI (n + 1))) := (frm.upI w (by decide) (by decide)).trans (frm.upI _ (by decide) (by decide))
    have T1 : XT (ub bt n (byt v m)) (n + 1) (updI (updI w 2 n (nI (byt v m))) 1 1 (nI (n + 1))) := by
      refine ⟨rd_e, fun i hi => ?_⟩
      rw [rd_n (by decide)]
      unfold ub
      by_cases e : i = n
      · rw [if_pos e, e, rd_e]
      · rw [if_neg e, rd_k e]; exact T.2 i (by omega)
    obtain ⟨w2, g1, g2, g3, g4⟩ := ih (n + 1) (ub bt n (byt v m)) .null _ (by omega) (by omega) T1 (okt_ub ho (by omega) b2)
    rw [show n + 1 + m = n + (m + 1) by omega] at g1 g3 g4
    rw [e0]
    have t := p_X8_type_32F_L32 (x1 := v) (v3 := v3) (nI_pos (show m < 2 ^ 31 by omega)) e2
    rw [m1_i] at t
    exact ⟨w2, t.trans g1, f1.trans g2, g3, g4⟩
theorem l_mtype {v : Int64} {d : Nat} : ∀ (m n : Nat) (bt : Nat → Nat) (v3 : Value) (w : Wd), m ≤ 8 → n + m ≤ 300 → MT bt n w →
    ∃ w2, runs (T_X9_type (sem d)) (37, [.ref 34, .long v, .null, v3, .int (nI m - 1)], [], w) = some (some (.int (nI (n + m))), w2) ∧ tch w w2 ∧ MT (tyT v m n bt) (n + m) w2 := by
  intro m
  induction m with
  | zero =>
    intro n bt v3 w _ _ T
    have t := p_X9_type_37T_R (ex := sem d) (x1 := v) (v3 := v3) (x4 := nI 0 - 1) (w := w) (by decide)
    rw [T.1] at t
    exact ⟨w, t, ⟨fun _ _ _ => rfl, fun _ _ _ => rfl, rfl⟩, T⟩
  | succ m ih =>
    intro n bt v3 w h8 hn T
    have e0 : nI (m + 1) - 1 = nI m := nI_pred m
    obtain ⟨b1, b2⟩ := cB_byt v m
    have eb : ((v >>> ((8 * nI m).toInt64 &&& 63)) &&& 255).toInt32 = nI (byt v m) := (cB_rB v m (by omega)).symm.trans b1
    have t := p_X9_type_37F_L37 (ex := sem d) (x1 := v) (v3 := v3) (x4 := nI m) (w := w) (nI_pos (by omega)) (by rw [T.1]; exact vp_in_nI (by omega) (by decide))
    rw [eb, m1_i, T.1, nI_clamp (by omega), nI_1] at t
    have T1 : MT (ub bt n (byt v m)) (n + 1) (updI (updI w 35 n (nI (byt v m))) 34 3 (nI (n + 1))) := by
      refine ⟨rd_e, fun i hi => ?_⟩
      rw [rd_n (by decide)]
      unfold ub
      by_cases e : i = n
      · rw [if_pos e, e, rd_e]
      · rw [if_neg e, rd_k e]; exact T.2 i (by omega)
    obtain ⟨w2, g1, g2, g3⟩ := ih (n + 1) (ub bt n (byt v m)) .null _ (by omega) (by omega) T1
    rw [show n + 1 + m = n + (m + 1) by omega] at g1 g3
    rw [e0]
    refine ⟨w2, t.trans g1, ⟨fun q q1 q2 => ?_, fun j j0 j1 => ?_, g2.2.2⟩, g3⟩
    · rw [g2.1 q q1 q2]; funext z; rw [rd_n q1, rd_n q2]
    · rw [g2.2.1 j j0 j1, rd_k j1, rd_n (by decide)]
theorem tch.thr {w w2 : Wd} (h : tch (updI w 34 0 0) w2) : tch w w2 := ⟨fun q q1 q2 => by rw [h.1 q q1 q2]; funext z; rw [rd_n q1], fun j j0 j1 => by rw [h.2.1 j j0 j1, rd_k j0], h.2.2⟩
theorem agr_type {v : Int64} {x3 : Int32} (J : Jn w) : agr 102 137 [.ref 0, .long v, .int x3] [.ref 34, .long v, .int x3] w := by
  obtain ⟨p, c, rs, sp, us, im, ht, bt, n, tr, hp, ok, X, M⟩ := J
  have ho := ok.2.2.2.2.2.2
  have hn := ho.1
  by_cases hx : ∃ k, 1 ≤ k ∧ k ≤ 8 ∧ x3 = nI k
  · obtain ⟨k, k1, k8, rfl⟩ := hx
    have g1 : ¬ nI k < 1 := nI_nlt (a := k) (b := 1) k1 (by omega)
    have g8 : nI k ≤ 8 := nI_le (b := 8) k8 (by decide)
    have b1 := fun w' => m_inN (w := updI w' 34 0 0) (d := 38) (a := k) (lo := 1) (hi := 8) (by omega) (by decide) (by decide)
    have b1 : ∀ w', sem 39 135 [.int (nI k), .int 1, .int 8] (updI w' 34 0 0) = some (some (.int 1), updI w' 34 0 0) := fun w' => by
      have := b1 w'
      rw [b2i_t (decide_eq_true ⟨k1, k8⟩)] at this
      exact this
    have er : 300 - (w.1 1 1) = nI (300 - n) := by rw [X.2.2.2.1.1]; exact pk_sub (a := 300) hn
    by_cases hr : n + k ≤ 300
    · have e1 : sem 39 21 [.ref 1, .int (nI k)] w = some (some (.int 1), w) := e_X3_hasRoomFor.trans (p_X3_hasRoomFor_0F_R (by rw [er]; exact nI_nlt (by omega) (by omega)))
      obtain ⟨w2, a1, a2, a3, a4⟩ := l_xtype (v := v) (d := 37) k n bt (.int (nI k)) w k8 hr X.2.2.2.1 ho
      have ok2 : okZ c rs us im ht (tyT v k n bt) (n + k) := ⟨ok.1, ok.2.1, ok.2.2.1, ok.2.2.2.1, ok.2.2.2.2.1, ok.2.2.2.2.2.1, a4⟩
      refine agr_s hp ok2 M (e_X8_type.trans ((p_X8_type_0FTT_L32 g1 g8 e1 (by decide)).trans a1)) (fun q hq => a2 q (by omega)) (X.txt hp a2 a3) (fun w' M' => ?_)
      obtain ⟨w3, c1, c2, c3⟩ := l_mtype (v := v) (d := 39) k n bt (.int (nI k)) (updI w' 34 0 0) k8 hr M'.thr.2.2.2.2.2.1
      have e2 : (updI w' 34 0 0).1 34 3 + nI k = nI (n + k) := by rw [M'.thr.2.2.2.2.2.1.1, nI_add]
      refine ⟨w3, e_X9_type.trans ((p_X9_type_0TT_L37 (b1 w') (by decide) (by rw [e2]; exact nI_le (b := 300) hr (by decide))).trans c1), fun q hq => ⟨?_, by rw [c2.2.2]; rfl⟩, M'.txt c2.thr c3⟩
      rw [c2.1 q (by omega) (by omega)]
      funext z; rw [rd_n (by omega)]
    · have e1 : sem 39 21 [.ref 1, .int (nI k)] w = some (some (.int 0), w) := e_X3_hasRoomFor.trans (p_X3_hasRoomFor_0T_R (by rw [er]; exact nI_lt (by omega) (by omega)))
      refine agr_q hp ok X M (v := -3) (e_X8_type.trans (p_X8_type_0FTF_R g1 g8 e1 rfl)) (xch.refl w) (fun w' M' => ?_)
      have e2 : (updI w' 34 0 0).1 34 3 + nI k = nI (n + k) := by rw [M'.thr.2.2.2.2.2.1.1, nI_add]
      exact ⟨_, e_X9_type.trans (p_X9_type_0TF_R (b1 w') (by decide) (by rw [e2]; exact nI_ge (a := 300) (by omega) (by omega))), mch.thr w', M'.2.2.2.2.2.2.2.1.thr⟩
  · have big : ¬ x3 < 1 → ¬ x3 ≤ 8 := fun h1 h8 => hx (by
      rcases i_cases x3 with h | ⟨k, hk, rfl⟩
      · exfalso
        apply h1
        rw [fa_lt] at h ⊢
        have a1 : (0 : Int32).toInt = 0 := by decide
        have a2 : (1 : Int32).toInt = 1 := by decide
        rw [a1] at h
        rw [a2]
        omega
      · have h8 := (nI_leI (b := 8) hk (by decide)).mp h8
        refine ⟨k, ?_, h8, rfl⟩
        rcases Nat.lt_or_ge k 1 with h | h
        · exact absurd (nI_lt (b := 1) h (by decide)) h1
        · exact h)
    have bx : sem 40 102 [.ref 0, .long v, .int x3] w = some (some (.int (-1)), w) := by
      by_cases h1 : x3 < 1
      · exact e_X8_type.trans (p_X8_type_0T_R h1)
      · exact e_X8_type.trans (p_X8_type_0FF_R h1 (big h1))
    have bm : ∀ w' : Wd, sem 39 135 [.int x3, .int 1, .int 8] w' = some (some (.int 0), w') := fun w' => by
      by_cases h1 : x3 < 1
      · exact e_X9_in.trans (p_X9_in_0T_R h1)
      · exact e_X9_in.trans (p_X9_in_0FT_R h1 (i_nle (big h1)))
    exact agr_q hp ok X M bx (xch.refl w)
      (fun w' M' => ⟨_, e_X9_type.trans (p_X9_type_0F_R (bm _) rfl), mch.thr w', M'.2.2.2.2.2.2.2.1.thr⟩)
theorem scp.flip (hp : scp p) : scp (47 - p) ∧ 47 - (47 - p) = p ∧ p < 47 := by
  rcases hp with rfl | rfl
  · exact ⟨Or.inr rfl, rfl, by decide⟩
  · exact ⟨Or.inl rfl, rfl, by decide⟩
theorem prs_flt {bt : Nat → Nat} {n : Nat} : ∀ (m i f : Nat) (S : PS), i ≤ n → prs bt n m i S = .inl f → f ≤ n := by
  intro m
  induction m with
  | zero =>
    intro i f S hi h
    have h : Sum.inl n = (Sum.inl f : Nat ⊕ PS) := h
    rw [Sum.inl.inj h]
    exact Nat.le_refl _
  | succ m ih =>
    intro i f S hi h
    obtain ⟨t1, t2, t3, _⟩ := tk_adv (bt := bt) hi
    rw [prs_s] at h
    split at h
    · exact absurd h (by simp)
    · split at h
      · rw [← Sum.inl.inj h]; omega
      · exact ih _ _ _ t3 h
theorem prs_it {bt : Nat → Nat} {n : Nat} : ∀ (m i : Nat) (S S2 : PS), prs bt n m i S = .inr S2 → S2.2.2.2 ≤ S.2.2.2 + m := by
  intro m
  induction m with
  | zero => intro i S S2 h; exact absurd h (by simp [prs])
  | succ m ih =>
    intro i S S2 h
    rw [prs_s] at h
    split at h
    · rw [← Sum.inr.inj h]; omega
    · split at h
      · exact absurd h (by simp)
      · rename_i S3 hst
        have h1 := ih _ _ _ h
        have h2 : S3.2.2.2 ≤ S.2.2.2 + 1 := by
          unfold stepP at hst
          split at hst
          · exact absurd hst (by simp)
          · split at hst
            · split at hst
              · rw [← Option.some.inj hst]; exact Nat.le_refl _
              · exact absurd hst (by simp)
            · split at hst
              · split at hst
                · rw [← Option.some.inj hst]; exact Nat.le_succ _
                · exact absurd hst (by simp)
              · split at hst
                · rw [← Option.some.inj hst]; exact Nat.le_succ _
                · exact absurd hst (by simp)
        omega
/-- the reference, where nothing of the school but the draft has changed -/
theorem MR.rd {w1 : Wd} (M : MR c rs sp us im ht bt n tr w) (hc : okc c) (h : _root_.Jvm.Pilot.CSpellLayersLaw_law_r8466_fd8219.thr w w1) (r : rch w1 w2) : MR c rs sp us im ht bt n tr w2 := by
  obtain ⟨m1, m2, m3, m4, m5, m6, m7, m8, m9⟩ := M
  have h5 := hc.1
  have h3 := hc.2.2.1
  have f : ∀ q, q ≠ 34 → q ≠ 36 → q ≠ 37 → q ≠ 38 → q ≠ 39 → w2.1 q = w.1 q := fun q q1 q2 q3 q4 q5 => (r.1 q q1 q2 q3 q4 q5).trans (h.1 q q1 q5)
  have g : ∀ j, (j < 4 ∧ j ≠ 0) ∨ (8 < j ∧ j < 16) ∨ 18 < j → w2.1 34 j = w.1 34 j := fun j hj => (r.2.1 j (by omega)).trans (h.2.1 j (by omega) (by omega) (by omega) (by omega) (by omega) (by omega))
  have g36 : ∀ k, k < 20 → w2.1 36 k = w.1 36 k := fun k hk => (r.2.2.1 k hk).trans (by rw [h.1 36 (by decide) (by decide)])
  have g38 : ∀ k, k < 3 → w2.1 38 k = w.1 38 k := fun k hk => (r.2.2.2.1 k hk).trans (by rw [h.1 38 (by decide) (by decide)])
  have g39 : ∀ k, k < 6 → w2.1 39 k = w.1 39 k := fun k hk => (r.2.2.2.2.1 k hk).trans (h.2.2.1 k hk)
  have e2 : w2.2 = w.2 := r.2.2.2.2.2.trans h.2.2.2
  refine ⟨?_, ?_, ?_, ?_, ?_, ?_, by rw [e2]; exact m7, ?_, ?_⟩
  · obtain ⟨y1, y2, y3, y4, y5, y6, y7, y8⟩ := m1
    refine ⟨?_, ?_, ?_, ?_, ?_, ?_, fun s hs => ?_, fun q hq => ?_⟩
    · rw [g 13 (by omega)]; exact y1
    · rw [g 14 (by omega)]; exact y2
    · rw [g 15 (by omega)]; exact y3
    · rw [g39 3 (by decide)]; exact y4
    · rw [g39 4 (by decide)]; exact y5
    · rw [g39 5 (by decide)]; exact y6
    · rw [g36 _ (by omega), g36 _ (by omega), g36 _ (by omega), g36 _ (by omega)]; exact y7 s hs
    · rw [g38 q (by omega)]; exact y8 q hq
  · unfold MRo at *
    rw [f 40 (by decide) (by decide) (by decide) (by decide) (by decide)]
    exact m2
  · unfold MUn at *
    rw [g 23 (by omega), f 43 (by decide) (by decide) (by decide) (by decide) (by decide)]
    exact m3
  · unfold MIm at *
    rw [f 41 (by decide) (by decide) (by decide) (by decide) (by decide), f 42 (by decide) (by decide) (by decide) (by decide) (by decide)]
    exact m4
  · unfold MHt at *
    rw [g 26 (by omega), f 44 (by decide) (by decide) (by decide) (by decide) (by decide), f 45 (by decide) (by decide) (by decide) (by decide) (by decide)]
    exact m5
  · unfold MT at *
    rw [g 3 (by omega), f 35 (by decide) (by decide) (by decide) (by decide) (by decide)]
    exact m6
  · unfold MCa at *
    rw [g 30 (by omega), f 48 (by decide) (by decide) (by decide) (by decide) (by decide)]
    exact m8
  · unfold MVZ MV at *
    rw [f 47 (by decide) (by decide) (by decide) (by decide) (by decide)]
    exact m9
theorem ten_neg {f : Nat} (h : f ≤ 300) : ¬ 0 ≤ (-10 - nI f : Int32) := by
  have : ∀ f, f < 301 → ¬ 0 ≤ (-10 - nI f : Int32) := by decide +kernel
  exact this f (by omega)
theorem agr_school (J : Jn w) : agr 104 149 [.ref 0] [.ref 34] w := by
  obtain ⟨p, c, rs, sp, us, im, ht, bt, n, tr, hp, ok, X, M⟩ := J
  have hc := ok.1
  have ho := ok.2.2.2.2.2.2
  have hn := ho.1
  obtain ⟨fp, ff, fl⟩ := hp.flip
  have hpp : p = 20 ∨ p = 27 := hp
  have x5 := X.2.2.2.2.2.1
  have x6 := X.2.2.2.2.2.2
  obtain ⟨x, w1, a1, a2, a3⟩ := s_read (d := 31) fp ho X.2.2.2.1
  have a2q : ∀ q, q ≠ 1 → q ≠ 3 → (q < 47 - p ∨ 47 - p + 7 ≤ q) → w1.1 q = w.1 q := a2.1
  have efuel : prs bt n 301 0 (0, [], bgD, 0) = PR bt n 0 (0, [], bgD, 0) := prs_fuel _ _ _ _ (Nat.zero_le _) (by omega) (by omega)
  cases hprs : prs bt n 301 0 (0, [], bgD, 0) with
  | inl f =>
    rw [hprs] at a3
    have hf : f ≤ 300 := Nat.le_trans (prs_flt _ _ _ _ (Nat.zero_le _) hprs) hn
    have a3 : x = -10 - nI f := a3
    have X2 : XR p c rs sp us im ht bt n tr w1 := by
      obtain ⟨y1, y2, y3, y4, y5, y6, y7⟩ := X
      refine ⟨y1.same (fun q h1 h2 => a2q q (by omega) (by omega) (by omega)), y2.of (fun q h1 h2 => a2q q (by omega) (by omega) (by omega)), ?_, y4.rdf fp a2, by rw [a2.2.2]; exact y5, ?_, ?_⟩
      · unfold XHt at *
        rw [a2q 15 (by decide) (by decide) (by omega), a2q 16 (by decide) (by decide) (by omega), a2q 17 (by decide) (by decide) (by omega)]
        exact y3
      · rw [a2q 0 (by decide) (by decide) (by omega)]; exact y6
      · rw [a2q 0 (by decide) (by decide) (by omega)]; exact y7
    refine agr_s hp ok M (e_X8_school.trans (p_X8_school_0F_R hp x6 a1 (by rw [a3]; exact ten_neg hf))) (fun q hq => ⟨a2q q (by omega) (by omega) (by omega), by rw [a2.2.2]⟩) X2 (fun w' M' => ?_)
    obtain ⟨y, v, u1, u2, b1, b2, b3, b4⟩ := m_read (d := 32) ho M'.2.2.2.2.2.1
    have M3 := M'.rd hc b2 b3
    rcases b4 with ⟨g, g1, g2⟩ | ⟨j, ns2, D2, it2, _, _, _, _, _, g2⟩
    · have eg : g = f := by
        rw [← efuel, hprs] at g2
        exact (Sum.inl.inj g2).symm
      have t := p_X9_school_59TF_R (x1 := y) (v2 := v) (m_wellF (d := 38) g1) rfl (m_wellF (d := 38) g1) rfl
      rw [g1.2, eg, ← a3] at t
      refine ⟨u2, e_X9_school.trans (b1.trans t), fun q hq => ⟨?_, by rw [b3.2.2.2.2.2, b2.2.2.2]⟩, M3⟩
      rw [b3.1 q (by omega) (by omega) (by omega) (by omega) (by omega), b2.1 q (by omega) (by omega)]
    · rw [← efuel, hprs] at g2
      exact absurd g2 (by simp)
  | inr S2 =>
    rw [hprs] at a3
    obtain ⟨a3, a4, a5⟩ := a3
    have hit : S2.2.2.2 ≤ 301 := by
      have := prs_it _ _ _ _ hprs
      have e0 : ((0, [], bgD, 0) : PS).2.2.2 = 0 := rfl
      rw [e0] at this
      omega
    obtain ⟨okD1, _⟩ := a5
    obtain ⟨z1, z2, z3, z4, z5, z6⟩ := a4
    generalize hD : S2.2.2.1 = D at *
    -- the class goes on
    have w0q : ∀ q, q ≠ 0 → (updI (updI w1 0 6 (nI p)) 0 5 (nI (47 - p))).1 q = w1.1 q := fun q h => by
      funext i; rw [rd_n h, rd_n h]
    have SH : XSh rs sp us im (updI (updI w1 0 6 (nI p)) 0 5 (nI (47 - p))) := X.2.1.of (fun q h1 h2 => by rw [w0q q (by omega), a2q q (by omega) (by omega) (by omega)])
    obtain ⟨w2, b1, b2, b3⟩ := s_startAs (d := 36) fp (z5.same (w0q _ (by omega))) SH
    have q4 : ∀ q, q ≠ 1 → q ≠ 15 → q < 4 ∨ 6 ≤ q → q ≠ 0 → (updI (updI w2 15 2 0) 1 1 0).1 q = w1.1 q := fun q h1 h2 h3 h4 => by
      funext i; rw [rd_n h1, rd_n h2, (b2 q (by omega)).1, w0q q h4]
    have e2 : ∀ q, q < 4 ∨ 6 ≤ q → (updI (updI w2 15 2 0) 1 1 0).2 q = w.2 q := fun q h => by
      show w2.2 q = w.2 q
      rw [(b2 q h).2]
      show w1.2 q = w.2 q
      rw [a2.2.2]
    have X2 : XR (47 - p) D.1 D.2 0 [] (fun _ => none) [] bt 0 tr (updI (updI w2 15 2 0) 1 1 0) := by
      refine ⟨z4.same (fun q h1 h2 => q4 q (by omega) (by omega) (by omega) (by omega)), b3.of (fun q h1 h2 => ?_), ⟨?_, fun i h => absurd h (Nat.not_lt_zero _)⟩, ⟨rd_e, fun i h => absurd h (Nat.not_lt_zero _)⟩, ?_, ?_, ?_⟩
      · funext i; rw [rd_n (by omega), rd_n (by omega)]
      · rw [rd_n (by decide), rd_e]; rfl
      · rw [e2 19 (by decide)]; exact X.2.2.2.2.1
      · rw [rd_n (by decide), rd_n (by decide), (b2 0 (by omega)).1, rd_e]
      · rw [rd_n (by decide), rd_n (by decide), (b2 0 (by omega)).1, rd_k (by decide), rd_e, ff]
    have ok2 : okZ D.1 D.2 [] (fun _ => none) [] bt 0 := ⟨okD1.1, ⟨okD1.2.1, ⟨Nat.zero_le _, fun u hu => absurd hu List.not_mem_nil⟩, fun j q hq => absurd hq (by simp)⟩, fun t h1 _ => okD1.2.2.1 t h1, fun u hu => absurd hu List.not_mem_nil, fun j q hq => absurd hq (by simp), ⟨Nat.zero_le _, fun q hq => absurd hq List.not_mem_nil⟩, Nat.zero_le _, fun i h => absurd h (Nat.not_lt_zero _)⟩
    have t := p_X8_school_0T_R hp x6 a1 (by rw [a3]; exact nI_pos' (by omega)) (by rw [a2q 0 (by decide) (by decide) (by omega)]; exact x6) (by rw [a2q 0 (by decide) (by decide) (by omega)]; exact x5) b1 (e_X1_seeNothing.trans p_X1_seeNothing_0_R) (e_X3_empty.trans p_X3_empty_0_R)
    refine agr_s fp ok2 M (e_X8_school.trans t) (fun q hq => ⟨?_, e2 q (by omega)⟩) X2 (fun w' M' => ?_)
    · rw [q4 q (by omega) (by omega) (by omega) (by omega), a2q q (by omega) (by omega) (by omega)]
    · obtain ⟨y, v, u1, u2, c1, c2, c3, c4⟩ := m_read (d := 32) ho M'.2.2.2.2.2.1
      rcases c4 with ⟨g, g1, g2⟩ | ⟨j, ns2, D2, it2, r1, r2, r3, r4, r5, g2⟩
      · rw [← efuel, hprs] at g2
        exact absurd g2 (by simp)
      · rw [← efuel, hprs] at g2
        have eS := Sum.inr.inj g2
        have eD : D2 = D := by rw [← hD, eS]
        have ei : it2 = S2.2.2.2 := by rw [eS]
        subst eD
        have g5 : (u2.1 34 5) = 0 := by rw [r1.2.2.2.2.1]; exact mtk_eq.1.mpr r2
        obtain ⟨u3, d1, d2⟩ := m_settles (d := 36) r5 r4
        have t2 := p_X9_school_59FTT_R (x1 := y) (v2 := v) (m_wellT (d := 38) r1) (by decide) g5 (m_wellT (d := 38) r1) (by decide) d1
        have ey : y = x := by rw [r3, ei, ← a3]
        rw [ey] at t2 c1
        obtain ⟨s1, s2, s3, s4, s5, s6, s7, s8, s9, s10, s11, s12⟩ := d2
        refine ⟨u3, e_X9_school.trans (c1.trans t2), fun q hq => ⟨?_, by rw [s12, c3.2.2.2.2.2, c2.2.2.2]⟩, s1, ⟨s2, s3⟩, ⟨s5, fun i h => absurd h (Nat.not_lt_zero _)⟩, fun z hz => ⟨fun _ => ?_, fun q hq => absurd hq (by simp)⟩, ⟨s6, fun i h => absurd h (Nat.not_lt_zero _)⟩, ⟨s4, fun i h => absurd h (Nat.not_lt_zero _)⟩, ?_, Or.inl s10, s9⟩
        · rw [s11 q hq, c3.1 q (by omega) (by omega) (by omega) (by omega) (by omega), c2.1 q (by omega) (by omega)]
        · rcases (by omega : z = 0 ∨ z = 1) with rfl | rfl
          · exact s7
          · exact s8
        · rw [s12, c3.2.2.2.2.2, c2.2.2.2]
          exact M'.2.2.2.2.2.2.1
end TEXT

/-! ops of the world: fields, arrays, constant texts -/
def oGetI (ci k : Nat) : Op := fun q => match q.2.2.1 with
  | .ref a :: st => match Nat.beq (clsOf a) ci with
    | true => some (.inl (q.1 + 3, q.2.1, .int (q.2.2.2.1 a k) :: st, q.2.2.2))
    | false => none
  | _ => none
def oGetL (ci k : Nat) : Op := fun q => match q.2.2.1 with
  | .ref a :: st => match Nat.beq (clsOf a) ci with
    | true => some (.inl (q.1 + 3, q.2.1, .long (q.2.2.2.2 a k) :: st, q.2.2.2))
    | false => none
  | _ => none
def oGetA (ci off : Nat) : Op := fun q => match q.2.2.1 with
  | .ref a :: st => match Nat.beq (clsOf a) ci with
    | true => some (.inl (q.1 + 3, q.2.1, .ref (a + off) :: st, q.2.2.2))
    | false => none
  | _ => none
def oGetD (ci k : Nat) : Op := fun q => match q.2.2.1 with
  | .ref a :: st => match Nat.beq (clsOf a) ci with
    | true => some (.inl (q.1 + 3, q.2.1, .ref (q.2.2.2.1 a k).toNatClampNeg :: st, q.2.2.2))
    | false => none
  | _ => none
def oPutI (ci k : Nat) : Op := fun q => match q.2.2.1 with
  | .int x :: .ref a :: st => match Nat.beq (clsOf a) ci with
    | true => some (.inl (q.1 + 3, q.2.1, st, updI q.2.2.2 a k x))
    | false => none
  | _ => none
def oPutL (ci k : Nat) : Op := fun q => match q.2.2.1 with
  | .long x :: .ref a :: st => match Nat.beq (clsOf a) ci with
    | true => some (.inl (q.1 + 3, q.2.1, st, updL q.2.2.2 a k x))
    | false => none
  | _ => none
def oPutD (ci k : Nat) : Op := fun q => match q.2.2.1 with
  | .ref b :: .ref a :: st => match Nat.beq (clsOf a) ci && Nat.blt b 53 with
    | true => some (.inl (q.1 + 3, q.2.1, st, updI q.2.2.2 a k (nI b)))
    | false => none
  | _ => none
def oIald : Op := fun q => match q.2.2.1 with
  | .int i :: .ref a :: st => match Nat.beq (clsOf a) 50 with
    | true => if i < 0 ∨ lenOf a ≤ i.toNatClampNeg then none else some (.inl (q.1 + 1, q.2.1, .int (q.2.2.2.1 a i.toNatClampNeg) :: st, q.2.2.2))
    | false => none
  | _ => none
def oZald : Op := fun q => match q.2.2.1 with
  | .int i :: .ref a :: st => match Nat.beq (clsOf a) 51 with
    | true => if i < 0 ∨ lenOf a ≤ i.toNatClampNeg then none else some (.inl (q.1 + 1, q.2.1, .int (q.2.2.2.1 a i.toNatClampNeg) :: st, q.2.2.2))
    | false => none
  | _ => none
def oIast : Op := fun q => match q.2.2.1 with
  | .int x :: .int i :: .ref a :: st => match Nat.beq (clsOf a) 50 with
    | true => if i < 0 ∨ lenOf a ≤ i.toNatClampNeg then none else some (.inl (q.1 + 1, q.2.1, st, updI q.2.2.2 a i.toNatClampNeg x))
    | false => none
  | _ => none
def oZast : Op := fun q => match q.2.2.1 with
  | .int x :: .int i :: .ref a :: st => match Nat.beq (clsOf a) 51 with
    | true => if i < 0 ∨ lenOf a ≤ i.toNatClampNeg then none else some (.inl (q.1 + 1, q.2.1, st, updI q.2.2.2 a i.toNatClampNeg (vp_nar .boolean x)))
    | false => none
  | _ => none
def oAlen : Op := fun q => match q.2.2.1 with
  | .ref a :: st => match Nat.beq (clsOf a) 50 || Nat.beq (clsOf a) 51 with
    | true => some (.inl (q.1 + 1, q.2.1, .int (nI (lenOf a)) :: st, q.2.2.2))
    | false => none
  | _ => none
def oSVal : Op := fun q => match q.2.2.1 with
  | .ref a :: st => match Nat.ble 100 a && Nat.blt a 106 with
    | true => some (.inl (q.1 + 3, q.2.1, .ref (a + 100) :: st, q.2.2.2))
    | false => none
  | _ => none
def oSCod : Op := fun q => match q.2.2.1 with
  | .ref a :: st => match Nat.ble 100 a && Nat.blt a 106 with
    | true => some (.inl (q.1 + 3, q.2.1, .int 0 :: st, q.2.2.2))
    | false => none
  | _ => none
def oSLen : Op := fun q => match q.2.2.1 with
  | .ref a :: st => match Nat.ble 200 a && Nat.blt a 206 with
    | true => some (.inl (q.1 + 1, q.2.1, .int (nI (stL.getD (a - 200) 0)) :: st, q.2.2.2))
    | false => none
  | _ => none
def oSByt : Op := fun q => match q.2.2.1 with
  | .int i :: .ref a :: st => match Nat.ble 200 a && Nat.blt a 206 with
    | true => if i < 0 ∨ stL.getD (a - 200) 0 ≤ i.toNatClampNeg then none else some (.inl (q.1 + 1, q.2.1, .int ((stB.getD (a - 200) []).getD i.toNatClampNeg 0) :: st, q.2.2.2))
    | false => none
  | _ => none
/-- a field's words -/
def FldOk (own : String) (idx ci k : Nat) : Prop := ∃ (C : String) (T : u_T) (N : Nat), vwCl[ci]? = some (C, T, N) ∧ k < N ∧ N = nfOf ci ∧ (∀ w ∈ u_ws C T N, w ∈ GW) ∧ Cond.fieldLink own idx (T k).1 (T k).2.1 (T k).2.2.1 ∈ GW
def PutOk (own : String) (idx ci k : Nat) (ty : FieldType) : Prop := ∃ (C : String) (T : u_T) (N : Nat), vwCl[ci]? = some (C, T, N) ∧ k < N ∧ N = nfOf ci ∧ (∀ w ∈ u_ws C T N, w ∈ GW) ∧ Cond.fieldLink own idx (T k).1 (T k).2.1 (T k).2.2.1 ∈ GW ∧ (∃ ty0 : Nat → FieldType, ∀ j, j < N → parseFieldDescriptor (T j).2.2.1 = some (ty0 j)) ∧ (∀ a, a < N → ∀ b, b < N → a ≠ b → (T a).2.1 ≠ (T b).2.1) ∧ (T k).2.2.2 = false ∧ parseFieldDescriptor (T k).2.2.1 = some ty
theorem cell_obj {ad : Nat → Nat} {cI cZ : ClassId} {w : Wd} {a ci : Nat} (h : clsOf a = ci) (hc : ci < 50) : (wld ad cI cZ w)[a]? = some (ad a, .inr (ci, flds ad w a ci)) := by
  rw [wld_at (clsOf_lt (by omega))]
  unfold cellOf
  rw [if_neg (by omega), if_neg (by omega), h]
theorem cell_arr {ad : Nat → Nat} {cI cZ : ClassId} {w : Wd} {a : Nat} (h : clsOf a = 50) : (wld ad cI cZ w)[a]? = some (ad a, .inl (cI, lenOf a, .inl (w.1 a))) := by
  rw [wld_at (clsOf_lt (by omega))]
  unfold cellOf
  rw [if_pos h]
theorem cell_arz {ad : Nat → Nat} {cI cZ : ClassId} {w : Wd} {a : Nat} (h : clsOf a = 51) : (wld ad cI cZ w)[a]? = some (ad a, .inl (cZ, lenOf a, .inl (w.1 a))) := by
  rw [wld_at (clsOf_lt (by omega))]
  unfold cellOf
  rw [if_neg (by omega), if_pos h]
theorem cell_obj' {ad : Nat → Nat} {cI cZ : ClassId} {w : Wd} {a ci : Nat} (h : clsOf a = ci) (hc : ci < 50) : cellOf ad cI cZ w a = .inr (ci, flds ad w a ci) := by
  unfold cellOf
  rw [if_neg (by omega), if_neg (by omega), h]
theorem fv0 {w : Wd} {a ci k : Nat} (h : fkOf ci k = 0) : fval w a ci k = .int (w.1 a k) := by unfold fval; rw [h]; rfl
theorem fv1 {w : Wd} {a ci k : Nat} (h : fkOf ci k = 1) : fval w a ci k = .long (w.2 a k) := by unfold fval; rw [h]; rfl
theorem fv2 {w : Wd} {a ci k : Nat} (h : fkOf ci k = 2) : fval w a ci k = .ref (w.1 a k).toNatClampNeg := by unfold fval; rw [h]; rfl
theorem fv3 {w : Wd} {a ci k off : Nat} (h : fkOf ci k = off + 10) : fval w a ci k = .ref (a + off) := by unfold fval; rw [h]; rfl
theorem fval_updI_ne {w : Wd} {a ci k j : Nat} {x : Int32} (h : j ≠ k) : fval (updI w a k x) a ci j = fval w a ci j := by
  unfold fval
  rw [updI_at, updI_2]
  have e : upd (w.1 a) k x j = w.1 a j := if_neg h
  rw [e]
theorem fval_updL_ne {w : Wd} {a ci k j : Nat} {x : Int64} (h : j ≠ k) : fval (updL w a k x) a ci j = fval w a ci j := by
  unfold fval
  rw [updL_at, updL_1]
  have e : vp_updL (w.2 a) k x j = w.2 a j := if_neg h
  rw [e]
theorem wld_putI {ad : Nat → Nat} {cI cZ : ClassId} {w : Wd} {a ci k : Nat} {x : Int32} {v : Value} (h : clsOf a = ci) (hc : ci < 50) (hv : mv ad (fval (updI w a k x) a ci k) = v) : (wld ad cI cZ w).set a (ad a, .inr (ci, (flds ad w a ci).set k v)) = wld ad cI cZ (updI w a k x) := by
  refine wld_set (clsOf_lt (by omega)) ?_ (fun q hq => cellOf_same (updI_ne w k x hq) rfl)
  rw [cell_obj' h hc, flds_set hv (fun j hj => fval_updI_ne hj)]
theorem wld_putL {ad : Nat → Nat} {cI cZ : ClassId} {w : Wd} {a ci k : Nat} {x : Int64} {v : Value} (h : clsOf a = ci) (hc : ci < 50) (hv : mv ad (fval (updL w a k x) a ci k) = v) : (wld ad cI cZ w).set a (ad a, .inr (ci, (flds ad w a ci).set k v)) = wld ad cI cZ (updL w a k x) := by
  refine wld_set (clsOf_lt (by omega)) ?_ (fun q hq => cellOf_same rfl (updL_ne w k x hq))
  rw [cell_obj' h hc, flds_set hv (fun j hj => fval_updL_ne hj)]
theorem wld_putA {ad : Nat → Nat} {cI cZ : ClassId} {w : Wd} {a i : Nat} {x : Int32} (h : clsOf a = 50) : (wld ad cI cZ w).set a (ad a, .inl (cI, lenOf a, .inl (upd (w.1 a) i x))) = wld ad cI cZ (updI w a i x) := by
  refine wld_set (clsOf_lt (by omega)) ?_ (fun q hq => cellOf_same (updI_ne w i x hq) rfl)
  unfold cellOf
  rw [if_pos h, updI_at]
theorem wld_putZ {ad : Nat → Nat} {cI cZ : ClassId} {w : Wd} {a i : Nat} {x : Int32} (h : clsOf a = 51) : (wld ad cI cZ w).set a (ad a, .inl (cZ, lenOf a, .inl (upd (w.1 a) i x))) = wld ad cI cZ (updI w a i x) := by
  refine wld_set (clsOf_lt (by omega)) ?_ (fun q hq => cellOf_same (updI_ne w i x hq) rfl)
  unfold cellOf
  rw [if_neg (by omega), if_pos h, updI_at]
theorem hund2 {a : Nat} (h : 100 ≤ a) : 200 + (a - 100) = a + 100 := by omega
section OPS3
variable {p : Program} {l : Launch} {e : Env} {R : Room} {s : State} {m : MethodId} {args : Array Value} {below : List Frame} {meth : Method} {c : Code} {cells slots : Nat} {cc : ByteArray} {nL : Nat} {own : String} {ad : Nat → Nat} {D : va_G} {cI cZ : ClassId} {A : Nat → Prop}
theorem ok_getI {pc idx ci k : Nat} (hF : FldOk own idx ci k) (hci : ci < 50) (hfk : fkOf ci k = 0) (cx : CX p R s m args c cells slots cc nL own ad D cI cZ A) (hd : decode cc pc = .ok (.getfield idx, 3)) : OkI p l e R s m args below meth c cells slots cc nL ad D cI cZ A pc (oGetI ci k) := by
  intro L st w r h
  unfold oGetI at h
  dsimp only at h
  split at h
  · rename_i _ a st'
    split at h
    · rename_i hb
      cases h
      have hb1 : clsOf a = ci := Nat.eq_of_beq_eq_true hb
      intro Q kk H locs ls hP hS hl
      obtain ⟨h1, h2, h3, h4, h5, h6, h7, h8, h9, h10, h11⟩ := cx
      obtain ⟨C, T, N, g1, g2, g3, g4, g5⟩ := hF
      have hv : (flds ad w a ci)[k]? = some (.int (w.1 a k)) := by rw [flds_at (by rw [← g3]; exact g2), fv0 hfk]; rfl
      exact va_get (T := T) (N := N) h1 h2 h5 g4 h4 h6 hP a (cell_obj hb1 hci) g1 k g2 (h5 _ g5) (fun _ z => z) hv hd (kk H locs ls hP hS hl)
    · cases h
  · cases h
theorem ok_getL {pc idx ci k : Nat} (hF : FldOk own idx ci k) (hci : ci < 50) (hfk : fkOf ci k = 1) (cx : CX p R s m args c cells slots cc nL own ad D cI cZ A) (hd : decode cc pc = .ok (.getfield idx, 3)) : OkI p l e R s m args below meth c cells slots cc nL ad D cI cZ A pc (oGetL ci k) := by
  intro L st w r h
  unfold oGetL at h
  dsimp only at h
  split at h
  · rename_i _ a st'
    split at h
    · rename_i hb
      cases h
      have hb1 : clsOf a = ci := Nat.eq_of_beq_eq_true hb
      intro Q kk H locs ls hP hS hl
      obtain ⟨h1, h2, h3, h4, h5, h6, h7, h8, h9, h10, h11⟩ := cx
      obtain ⟨C, T, N, g1, g2, g3, g4, g5⟩ := hF
      have hv : (flds ad w a ci)[k]? = some (.long (w.2 a k)) := by rw [flds_at (by rw [← g3]; exact g2), fv1 hfk]; rfl
      exact va_get (T := T) (N := N) h1 h2 h5 g4 h4 h6 hP a (cell_obj hb1 hci) g1 k g2 (h5 _ g5) (fun _ z => z) hv hd (kk H locs ls hP hS hl)
    · cases h
  · cases h
theorem ok_getA {pc idx ci k : Nat} {off : Nat} (hF : FldOk own idx ci k) (hci : ci < 50) (hfk : fkOf ci k = off + 10) (cx : CX p R s m args c cells slots cc nL own ad D cI cZ A) (hd : decode cc pc = .ok (.getfield idx, 3)) : OkI p l e R s m args below meth c cells slots cc nL ad D cI cZ A pc (oGetA ci off) := by
  intro L st w r h
  unfold oGetA at h
  dsimp only at h
  split at h
  · rename_i _ a st'
    split at h
    · rename_i hb
      cases h
      have hb1 : clsOf a = ci := Nat.eq_of_beq_eq_true hb
      intro Q kk H locs ls hP hS hl
      obtain ⟨h1, h2, h3, h4, h5, h6, h7, h8, h9, h10, h11⟩ := cx
      obtain ⟨C, T, N, g1, g2, g3, g4, g5⟩ := hF
      have hv : (flds ad w a ci)[k]? = some (.ref (ad (a + off))) := by rw [flds_at (by rw [← g3]; exact g2), fv3 hfk]; rfl
      exact va_get (T := T) (N := N) h1 h2 h5 g4 h4 h6 hP a (cell_obj hb1 hci) g1 k g2 (h5 _ g5) (fun _ z => z) hv hd (kk H locs ls hP hS hl)
    · cases h
  · cases h
theorem ok_getD {pc idx ci k : Nat} (hF : FldOk own idx ci k) (hci : ci < 50) (hfk : fkOf ci k = 2) (cx : CX p R s m args c cells slots cc nL own ad D cI cZ A) (hd : decode cc pc = .ok (.getfield idx, 3)) : OkI p l e R s m args below meth c cells slots cc nL ad D cI cZ A pc (oGetD ci k) := by
  intro L st w r h
  unfold oGetD at h
  dsimp only at h
  split at h
  · rename_i _ a st'
    split at h
    · rename_i hb
      cases h
      have hb1 : clsOf a = ci := Nat.eq_of_beq_eq_true hb
      intro Q kk H locs ls hP hS hl
      obtain ⟨h1, h2, h3, h4, h5, h6, h7, h8, h9, h10, h11⟩ := cx
      obtain ⟨C, T, N, g1, g2, g3, g4, g5⟩ := hF
      have hv : (flds ad w a ci)[k]? = some (.ref (ad (w.1 a k).toNatClampNeg)) := by rw [flds_at (by rw [← g3]; exact g2), fv2 hfk]; rfl
      exact va_get (T := T) (N := N) h1 h2 h5 g4 h4 h6 hP a (cell_obj hb1 hci) g1 k g2 (h5 _ g5) (fun _ z => z) hv hd (kk H locs ls hP hS hl)
    · cases h
  · cases h
theorem ok_putI {pc idx ci k : Nat} (hF : PutOk own idx ci k .int) (hci : ci < 50) (hfk : fkOf ci k = 0) (cx : CX p R s m args c cells slots cc nL own ad D cI cZ A) (hd : decode cc pc = .ok (.putfield idx, 3)) : OkI p l e R s m args below meth c cells slots cc nL ad D cI cZ A pc (oPutI ci k) := by
  intro L st w r h
  unfold oPutI at h
  dsimp only at h
  split at h
  · rename_i _ x a st'
    split at h
    · rename_i hb
      cases h
      have hb1 : clsOf a = ci := Nat.eq_of_beq_eq_true hb
      intro Q kk H locs ls hP hS hl
      obtain ⟨h1, h2, h3, h4, h5, h6, h7, h8, h9, h10, h11⟩ := cx
      obtain ⟨C, T, N, g1, g2, g3, g4, g5, ⟨ty0, g6⟩, g7, g8, g9⟩ := hF
      have hv : mv ad (fval (updI w a k x) a ci k) = .int x := by rw [fv0 hfk, updI_at]; simp [mv, upd]
      refine va_put (T := T) (N := N) (v := .int x) h1 h2 h5 g4 ty0 g6 g7 h4 h6 hP h7.D hS a (cell_obj hb1 hci) g1 k g2 (h5 _ g5) (fun _ z => z) g8 g9 rfl rfl (by rw [flds_len, ← g3]; exact g2) hd (fun H1 locs1 hP1 hD1 hS1 => ?_)
      rw [wld_putI hb1 hci hv] at hP1
      exact kk H1 locs1 ls hP1 hS1 hl
    · cases h
  · cases h
theorem ok_putL {pc idx ci k : Nat} (hF : PutOk own idx ci k .long) (hci : ci < 50) (hfk : fkOf ci k = 1) (cx : CX p R s m args c cells slots cc nL own ad D cI cZ A) (hd : decode cc pc = .ok (.putfield idx, 3)) : OkI p l e R s m args below meth c cells slots cc nL ad D cI cZ A pc (oPutL ci k) := by
  intro L st w r h
  unfold oPutL at h
  dsimp only at h
  split at h
  · rename_i _ x a st'
    split at h
    · rename_i hb
      cases h
      have hb1 : clsOf a = ci := Nat.eq_of_beq_eq_true hb
      intro Q kk H locs ls hP hS hl
      obtain ⟨h1, h2, h3, h4, h5, h6, h7, h8, h9, h10, h11⟩ := cx
      obtain ⟨C, T, N, g1, g2, g3, g4, g5, ⟨ty0, g6⟩, g7, g8, g9⟩ := hF
      have hv : mv ad (fval (updL w a k x) a ci k) = .long x := by rw [fv1 hfk, updL_at]; simp [mv, vp_updL]
      refine va_put (T := T) (N := N) (v := .long x) h1 h2 h5 g4 ty0 g6 g7 h4 h6 hP h7.D hS a (cell_obj hb1 hci) g1 k g2 (h5 _ g5) (fun _ z => z) g8 g9 rfl rfl (by rw [flds_len, ← g3]; exact g2) hd (fun H1 locs1 hP1 hD1 hS1 => ?_)
      rw [wld_putL hb1 hci hv] at hP1
      exact kk H1 locs1 ls hP1 hS1 hl
    · cases h
  · cases h
theorem ok_putD {pc idx ci k : Nat} {n : String} (hF : PutOk own idx ci k (.object n)) (hci : ci < 50) (hfk : fkOf ci k = 2) (cx : CX p R s m args c cells slots cc nL own ad D cI cZ A) (hd : decode cc pc = .ok (.putfield idx, 3)) : OkI p l e R s m args below meth c cells slots cc nL ad D cI cZ A pc (oPutD ci k) := by
  intro L st w r h
  unfold oPutD at h
  dsimp only at h
  split at h
  · rename_i _ b a st'
    split at h
    · rename_i hb
      cases h
      rw [Bool.and_eq_true, Nat.blt_eq] at hb
      have hb1 : clsOf a = ci := Nat.eq_of_beq_eq_true hb.1
      intro Q kk H locs ls hP hS hl
      obtain ⟨h1, h2, h3, h4, h5, h6, h7, h8, h9, h10, h11⟩ := cx
      obtain ⟨C, T, N, g1, g2, g3, g4, g5, ⟨ty0, g6⟩, g7, g8, g9⟩ := hF
      have hv : mv ad (fval (updI w a k (nI b)) a ci k) = .ref (ad b) := by
        rw [fv2 hfk, updI_at]
        simp [mv, upd, nI_clamp (Nat.lt_of_lt_of_le hb.2 (by decide) : b < 2 ^ 31)]
      refine va_put (T := T) (N := N) (v := .ref (ad b)) h1 h2 h5 g4 ty0 g6 g7 h4 h6 hP h7.D hS a (cell_obj hb1 hci) g1 k g2 (h5 _ g5) (fun _ z => z) g8 g9 rfl rfl (by rw [flds_len, ← g3]; exact g2) hd (fun H1 locs1 hP1 hD1 hS1 => ?_)
      rw [wld_putI hb1 hci hv] at hP1
      exact kk H1 locs1 ls hP1 hS1 hl
    · cases h
  · cases h
theorem ok_Iald {pc : Nat} (cx : CX p R s m args c cells slots cc nL own ad D cI cZ A) (hd : decode cc pc = .ok (.iaload, 1)) : OkI p l e R s m args below meth c cells slots cc nL ad D cI cZ A pc oIald := by
  intro L st w r h
  unfold oIald at h
  dsimp only at h
  split at h
  · rename_i _ i a st'
    split at h
    · rename_i hb
      split at h
      · cases h
      · rename_i hi
        cases h
        have hb1 : clsOf a = 50 := Nat.eq_of_beq_eq_true hb
        intro Q kk H locs ls hP hS hl
        exact va_iald cx.1 cx.2.1 cx.2.2.2.2.2.1 hP a 0 (cell_arr hb1) rfl hi hd (kk H locs ls hP hS hl)
    · cases h
  · cases h
theorem ok_Zald {pc : Nat} (cx : CX p R s m args c cells slots cc nL own ad D cI cZ A) (hd : decode cc pc = .ok (.baload, 1)) : OkI p l e R s m args below meth c cells slots cc nL ad D cI cZ A pc oZald := by
  intro L st w r h
  unfold oZald at h
  dsimp only at h
  split at h
  · rename_i _ i a st'
    split at h
    · rename_i hb
      split at h
      · cases h
      · rename_i hi
        cases h
        have hb1 : clsOf a = 51 := Nat.eq_of_beq_eq_true hb
        intro Q kk H locs ls hP hS hl
        exact va_zald cx.1 cx.2.1 cx.2.2.2.2.2.1 hP a 1 (cell_arz hb1) rfl hi hd (kk H locs ls hP hS hl)
    · cases h
  · cases h
theorem ok_Iast {pc : Nat} (cx : CX p R s m args c cells slots cc nL own ad D cI cZ A) (hd : decode cc pc = .ok (.iastore, 1)) : OkI p l e R s m args below meth c cells slots cc nL ad D cI cZ A pc oIast := by
  intro L st w r h
  unfold oIast at h
  dsimp only at h
  split at h
  · rename_i _ x i a st'
    split at h
    · rename_i hb
      split at h
      · cases h
      · rename_i hi
        cases h
        have hb1 : clsOf a = 50 := Nat.eq_of_beq_eq_true hb
        intro Q kk H locs ls hP hS hl
        refine va_iast cx.1 cx.2.1 cx.2.2.2.2.2.1 hP cx.2.2.2.2.2.2.1.D hS a 0 (cell_arr hb1) rfl hi hd (fun H1 locs1 hP1 hD1 hS1 => ?_)
        rw [wld_putA hb1] at hP1
        exact kk H1 locs1 ls hP1 hS1 hl
    · cases h
  · cases h
theorem ok_Zast {pc : Nat} (cx : CX p R s m args c cells slots cc nL own ad D cI cZ A) (hd : decode cc pc = .ok (.bastore, 1)) : OkI p l e R s m args below meth c cells slots cc nL ad D cI cZ A pc oZast := by
  intro L st w r h
  unfold oZast at h
  dsimp only at h
  split at h
  · rename_i _ x i a st'
    split at h
    · rename_i hb
      split at h
      · cases h
      · rename_i hi
        cases h
        have hb1 : clsOf a = 51 := Nat.eq_of_beq_eq_true hb
        intro Q kk H locs ls hP hS hl
        refine va_zast cx.1 cx.2.1 cx.2.2.2.2.2.1 hP cx.2.2.2.2.2.2.1.D hS a 1 (cell_arz hb1) rfl hi hd (fun H1 locs1 hP1 hD1 hS1 => ?_)
        rw [wld_putZ hb1] at hP1
        exact kk H1 locs1 ls hP1 hS1 hl
    · cases h
  · cases h
theorem ok_alen {pc : Nat} (cx : CX p R s m args c cells slots cc nL own ad D cI cZ A) (hd : decode cc pc = .ok (.arraylength, 1)) : OkI p l e R s m args below meth c cells slots cc nL ad D cI cZ A pc oAlen := by
  intro L st w r h
  unfold oAlen at h
  dsimp only at h
  split at h
  · rename_i _ a st'
    split at h
    · rename_i hb
      cases h
      rw [Bool.or_eq_true] at hb
      intro Q kk H locs ls hP hS hl
      rcases hb with hb | hb
      · exact va_alen cx.1 cx.2.1 cx.2.2.2.2.2.1 hP a 0 (cell_arr (Nat.eq_of_beq_eq_true hb)) rfl rfl hd (kk H locs ls hP hS hl)
      · exact va_alen cx.1 cx.2.1 cx.2.2.2.2.2.1 hP a 1 (cell_arz (Nat.eq_of_beq_eq_true hb)) rfl rfl hd (kk H locs ls hP hS hl)
    · cases h
  · cases h
theorem ok_SVal {pc idx : Nat} (hw : Cond.fieldLink own idx "java/lang/String" "value" "[B" ∈ GW) (cx : CX p R s m args c cells slots cc nL own ad D cI cZ A) (hd : decode cc pc = .ok (.getfield idx, 3)) : OkI p l e R s m args below meth c cells slots cc nL ad D cI cZ A pc oSVal := by
  intro L st w r h
  unfold oSVal at h
  dsimp only at h
  split at h
  · rename_i _ a st'
    split at h
    · rename_i hb
      cases h
      rw [Bool.and_eq_true, Nat.blt_eq, Nat.ble_eq] at hb
      intro Q kk H locs ls hP hS hl
      obtain ⟨h1, h2, h3, h4, h5, h6, h7, h8, h9, h10, h11⟩ := cx
      have hE := (h8.1.1 (a - 100) (by omega)).2.2.1
      dsimp only at hE
      rw [Nat.add_sub_of_le hb.1] at hE
      rw [hund2 hb.1] at hE
      exact vk_getf h1 h2 hE hS h4 (h5 _ hw) (fun _ z => z) hd (kk H locs ls hP hS hl)
    · cases h
  · cases h
theorem ok_SCod {pc idx : Nat} (hw : Cond.fieldLink own idx "java/lang/String" "coder" "B" ∈ GW) (cx : CX p R s m args c cells slots cc nL own ad D cI cZ A) (hd : decode cc pc = .ok (.getfield idx, 3)) : OkI p l e R s m args below meth c cells slots cc nL ad D cI cZ A pc oSCod := by
  intro L st w r h
  unfold oSCod at h
  dsimp only at h
  split at h
  · rename_i _ a st'
    split at h
    · rename_i hb
      cases h
      rw [Bool.and_eq_true, Nat.blt_eq, Nat.ble_eq] at hb
      intro Q kk H locs ls hP hS hl
      obtain ⟨h1, h2, h3, h4, h5, h6, h7, h8, h9, h10, h11⟩ := cx
      have hE := (h8.1.1 (a - 100) (by omega)).2.1
      dsimp only at hE
      rw [Nat.add_sub_of_le hb.1] at hE
      skip
      exact vk_getf h1 h2 hE hS h4 (h5 _ hw) (fun _ z => z) hd (kk H locs ls hP hS hl)
    · cases h
  · cases h
theorem ok_SLen {pc : Nat} (cx : CX p R s m args c cells slots cc nL own ad D cI cZ A) (hd : decode cc pc = .ok (.arraylength, 1)) : OkI p l e R s m args below meth c cells slots cc nL ad D cI cZ A pc oSLen := by
  intro L st w r h
  unfold oSLen at h
  dsimp only at h
  split at h
  · rename_i _ a st'
    split at h
    · rename_i hb
      cases h
      rw [Bool.and_eq_true, Nat.blt_eq, Nat.ble_eq] at hb
      intro Q kk H locs ls hP hS hl
      obtain ⟨h1, h2, h3, h4, h5, h6, h7, h8, h9, h10, h11⟩ := cx
      have hE := (h8.1.1 (a - 200) (by omega)).2.2.2
      dsimp only at hE
      rw [Nat.add_sub_of_le hb.1] at hE
      exact va_tlen h1 h2 hE hS rfl hd (kk H locs ls hP hS hl)
    · cases h
  · cases h
theorem ok_SByt {pc : Nat} (cx : CX p R s m args c cells slots cc nL own ad D cI cZ A) (hd : decode cc pc = .ok (.baload, 1)) : OkI p l e R s m args below meth c cells slots cc nL ad D cI cZ A pc oSByt := by
  intro L st w r h
  unfold oSByt at h
  dsimp only at h
  split at h
  · rename_i _ i a st'
    split at h
    · rename_i hb
      split at h
      · cases h
      · rename_i hi
        cases h
        rw [Bool.and_eq_true, Nat.blt_eq, Nat.ble_eq] at hb
        intro Q kk H locs ls hP hS hl
        obtain ⟨h1, h2, h3, h4, h5, h6, h7, h8, h9, h10, h11⟩ := cx
        have hE := (h8.1.1 (a - 200) (by omega)).2.2.2
        dsimp only at hE
        rw [Nat.add_sub_of_le hb.1] at hE
        exact va_tb h1 h2 hE hS hi rfl hd (kk H locs ls hP hS hl)
    · cases h
  · cases h
def oStZ : Op := fun q => some (.inl (q.1 + 3, q.2.1, .int 1 :: q.2.2.1, q.2.2.2))
def oStR : Op := fun q => some (.inl (q.1 + 3, q.2.1, .retAddr 0 :: q.2.2.1, q.2.2.2))
def oLdS (i : Nat) : Op := fun q => some (.inl (q.1 + 2, q.2.1, .ref (100 + i) :: q.2.2.1, q.2.2.2))
theorem ok_StZ {pc idx : Nat} (hw : Cond.fieldLink own idx "java/lang/String" "COMPACT_STRINGS" "Z" ∈ GW) (cx : CX p R s m args c cells slots cc nL own ad D cI cZ A) (hd : decode cc pc = .ok (.getstatic idx, 3)) : OkI p l e R s m args below meth c cells slots cc nL ad D cI cZ A pc oStZ := by
  intro L st w r h
  cases h
  intro Q kk H locs ls hP hS hl
  obtain ⟨h1, h2, h3, h4, h5, h6, h7, h8, h9, h10, h11⟩ := cx
  exact va_gets h1 h2 h8.2.2.1 hS h4 (h5 _ hw) (fun _ z => z) hd (kk H locs ls hP hS hl)
theorem ok_StR {pc idx : Nat} (hw : Cond.fieldLink own idx "jdk/internal/util/Preconditions" "SIOOBE_FORMATTER" "Ljava/util/function/BiFunction;" ∈ GW) (cx : CX p R s m args c cells slots cc nL own ad D cI cZ A) (hd : decode cc pc = .ok (.getstatic idx, 3)) : OkI p l e R s m args below meth c cells slots cc nL ad D cI cZ A pc oStR := by
  intro L st w r h
  cases h
  intro Q kk H locs ls hP hS hl
  obtain ⟨h1, h2, h3, h4, h5, h6, h7, h8, h9, h10, h11⟩ := cx
  exact va_gets h1 h2 h8.2.2.2.1 hS h4 (h5 _ hw) (fun _ z => z) hd (kk H locs ls hP hS hl)
theorem ok_LdS {pc i idx : Nat} (hi : i < 6) (hx : stI.getD i 0 = idx) (ho : own = RX3) (cx : CX p R s m args c cells slots cc nL own ad D cI cZ A) (hd : decode cc pc = .ok (.ldc idx, 2)) : OkI p l e R s m args below meth c cells slots cc nL ad D cI cZ A pc (oLdS i) := by
  intro L st w r h
  cases h
  intro Q kk H locs ls hP hS hl
  obtain ⟨h1, h2, h3, h4, h5, h6, h7, h8, h9, h10, h11⟩ := cx
  have hE := h8.2.1 i hi
  rw [hx, ← ho] at hE
  exact va_ldcS h1 h2 h4 hE hd (kk H locs ls hP hS hl)
end OPS3

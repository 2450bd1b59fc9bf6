/-! ops of the locals, jumps, returns -/
def oIld (i len : Nat) : Op := fun q => match q.2.1[i]? with
  | some (.int x) => some (.inl (q.1 + len, q.2.1, .int x :: q.2.2.1, q.2.2.2))
  | _ => none
def oLld (i len : Nat) : Op := fun q => match q.2.1[i]? with
  | some (.long x) => some (.inl (q.1 + len, q.2.1, .long x :: q.2.2.1, q.2.2.2))
  | _ => none
def oAld (i len : Nat) : Op := fun q => match q.2.1[i]? with
  | some (.ref x) => some (.inl (q.1 + len, q.2.1, .ref x :: q.2.2.1, q.2.2.2))
  | _ => none
def oIst (i len : Nat) : Op := fun q => match q.2.2.1 with
  | .int x :: st => match Nat.blt i q.2.1.length && nl q.2.1 i with
    | true => some (.inl (q.1 + len, q.2.1.set i (.int x), st, q.2.2.2))
    | false => none
  | _ => none
def oAst (i len : Nat) : Op := fun q => match q.2.2.1 with
  | .ref x :: st => match Nat.blt i q.2.1.length && nl q.2.1 i with
    | true => some (.inl (q.1 + len, q.2.1.set i (.ref x), st, q.2.2.2))
    | false => none
  | _ => none
def oLst (i len : Nat) : Op := fun q => match q.2.2.1 with
  | .long x :: st => match Nat.blt (i + 1) q.2.1.length && nl q.2.1 i with
    | true => some (.inl (q.1 + len, (q.2.1.set i (.long x)).set (i + 1) .null, st, q.2.2.2))
    | false => none
  | _ => none
def oInc (i : Nat) (n : Int32) : Op := fun q => match q.2.1[i]? with
  | some (.int x) => match Nat.blt i q.2.1.length && nl q.2.1 i with
    | true => some (.inl (q.1 + 3, q.2.1.set i (.int (x + n)), q.2.2.1, q.2.2.2))
    | false => none
  | _ => none
def oIf_eq (tgt : Nat) : Op := fun q => match q.2.2.1 with
  | .int x :: st => some (.inl (if x = 0 then tgt else q.1 + 3, q.2.1, st, q.2.2.2))
  | _ => none
def oIc_eq (tgt : Nat) : Op := fun q => match q.2.2.1 with
  | .int y :: .int x :: st => some (.inl (if x = y then tgt else q.1 + 3, q.2.1, st, q.2.2.2))
  | _ => none
def oIf_ne (tgt : Nat) : Op := fun q => match q.2.2.1 with
  | .int x :: st => some (.inl (if x = 0 then q.1 + 3 else tgt, q.2.1, st, q.2.2.2))
  | _ => none
def oIc_ne (tgt : Nat) : Op := fun q => match q.2.2.1 with
  | .int y :: .int x :: st => some (.inl (if x = y then q.1 + 3 else tgt, q.2.1, st, q.2.2.2))
  | _ => none
def oIf_lt (tgt : Nat) : Op := fun q => match q.2.2.1 with
  | .int x :: st => some (.inl (if x < 0 then tgt else q.1 + 3, q.2.1, st, q.2.2.2))
  | _ => none
def oIc_lt (tgt : Nat) : Op := fun q => match q.2.2.1 with
  | .int y :: .int x :: st => some (.inl (if x < y then tgt else q.1 + 3, q.2.1, st, q.2.2.2))
  | _ => none
def oIf_ge (tgt : Nat) : Op := fun q => match q.2.2.1 with
  | .int x :: st => some (.inl (if 0 ≤ x then tgt else q.1 + 3, q.2.1, st, q.2.2.2))
  | _ => none
def oIc_ge (tgt : Nat) : Op := fun q => match q.2.2.1 with
  | .int y :: .int x :: st => some (.inl (if y ≤ x then tgt else q.1 + 3, q.2.1, st, q.2.2.2))
  | _ => none
def oIf_gt (tgt : Nat) : Op := fun q => match q.2.2.1 with
  | .int x :: st => some (.inl (if 0 < x then tgt else q.1 + 3, q.2.1, st, q.2.2.2))
  | _ => none
def oIc_gt (tgt : Nat) : Op := fun q => match q.2.2.1 with
  | .int y :: .int x :: st => some (.inl (if y < x then tgt else q.1 + 3, q.2.1, st, q.2.2.2))
  | _ => none
def oIf_le (tgt : Nat) : Op := fun q => match q.2.2.1 with
  | .int x :: st => some (.inl (if x ≤ 0 then tgt else q.1 + 3, q.2.1, st, q.2.2.2))
  | _ => none
def oIc_le (tgt : Nat) : Op := fun q => match q.2.2.1 with
  | .int y :: .int x :: st => some (.inl (if x ≤ y then tgt else q.1 + 3, q.2.1, st, q.2.2.2))
  | _ => none
def oGoto (tgt : Nat) : Op := fun q => some (.inl (tgt, q.2.1, q.2.2.1, q.2.2.2))
def tsel (x : Int32) : List (Int32 × Nat) → Nat → Nat
  | [], d => d
  | (v, t) :: ps, d => if x = v then t else tsel x ps d
def oTsw (ps : List (Int32 × Nat)) (d : Nat) : Op := fun q => match q.2.2.1 with
  | .int x :: st => some (.inl (tsel x ps d, q.2.1, st, q.2.2.2))
  | _ => none
def oFg (ks : List Nat) (op : Op) : Op := fun q => op (q.1, fgt q.2.1 ks, q.2.2.1, q.2.2.2)
def oRetI : Op := fun q => match q.2.2.1 with
  | [.int v] => some (.inr (some (.int v), q.2.2.2))
  | _ => none
def oRetZ : Op := fun q => match q.2.2.1 with
  | [.int v] => if v = 0 ∨ v = 1 then some (.inr (some (.int v), q.2.2.2)) else none
  | _ => none
def oRetN (ty : FieldType) : Op := fun q => match q.2.2.1 with
  | [.int v] => if narrow ty (.int v) = .int v then some (.inr (some (.int v), q.2.2.2)) else none
  | _ => none
def oRetL : Op := fun q => match q.2.2.1 with
  | [.long v] => some (.inr (some (.long v), q.2.2.2))
  | _ => none
def oRetV : Op := fun q => match q.2.2.1 with
  | [] => some (.inr (none, q.2.2.2))
  | _ => none
section OPS2
variable {p : Program} {l : Launch} {e : Env} {R : Room} {s : State} {m : MethodId} {args : Array Value} {below : List Frame} {meth : Method} {c : Code} {cells slots : Nat} {cc : ByteArray} {nL : Nat} {own : String} {ad : Nat → Nat} {D : va_G} {cI cZ : ClassId} {A : Nat → Prop}
theorem ok_iload_n {pc : Nat} {i : Nat} {kn : Fin 4} (hk : (kn : Nat) = i) (cx : CX p R s m args c cells slots cc nL own ad D cI cZ A) (hd : decode cc pc = .ok (.iload_n kn, 1)) : OkI p l e R s m args below meth c cells slots cc nL ad D cI cZ A pc (oIld i 1) := by
  intro L st w r h
  unfold oIld at h
  dsimp only at h
  split at h
  · rename_i x hx
    cases h
    intro Q k H locs ls hP hS hl
    exact lv_iload_n cx.1 cx.2.1 hd hk (hl.2.2.2 i _ hx (by intro h; cases h)) (k H locs ls hP hS hl)
  · cases h
theorem ok_iload {pc : Nat} {i : Nat} (cx : CX p R s m args c cells slots cc nL own ad D cI cZ A) (hd : decode cc pc = .ok (.iload i, 2)) : OkI p l e R s m args below meth c cells slots cc nL ad D cI cZ A pc (oIld i 2) := by
  intro L st w r h
  unfold oIld at h
  dsimp only at h
  split at h
  · rename_i x hx
    cases h
    intro Q k H locs ls hP hS hl
    exact lv_iload cx.1 cx.2.1 hd (hl.2.2.2 i _ hx (by intro h; cases h)) (k H locs ls hP hS hl)
  · cases h
theorem ok_lload_n {pc : Nat} {i : Nat} {kn : Fin 4} (hk : (kn : Nat) = i) (cx : CX p R s m args c cells slots cc nL own ad D cI cZ A) (hd : decode cc pc = .ok (.lload_n kn, 1)) : OkI p l e R s m args below meth c cells slots cc nL ad D cI cZ A pc (oLld i 1) := by
  intro L st w r h
  unfold oLld at h
  dsimp only at h
  split at h
  · rename_i x hx
    cases h
    intro Q k H locs ls hP hS hl
    exact lv_lload_n cx.1 cx.2.1 hd hk (hl.2.2.2 i _ hx (by intro h; cases h)) (k H locs ls hP hS hl)
  · cases h
theorem ok_lload {pc : Nat} {i : Nat} (cx : CX p R s m args c cells slots cc nL own ad D cI cZ A) (hd : decode cc pc = .ok (.lload i, 2)) : OkI p l e R s m args below meth c cells slots cc nL ad D cI cZ A pc (oLld i 2) := by
  intro L st w r h
  unfold oLld at h
  dsimp only at h
  split at h
  · rename_i x hx
    cases h
    intro Q k H locs ls hP hS hl
    exact lv_lload cx.1 cx.2.1 hd (hl.2.2.2 i _ hx (by intro h; cases h)) (k H locs ls hP hS hl)
  · cases h
theorem ok_aload_n {pc : Nat} {i : Nat} {kn : Fin 4} (hk : (kn : Nat) = i) (cx : CX p R s m args c cells slots cc nL own ad D cI cZ A) (hd : decode cc pc = .ok (.aload_n kn, 1)) : OkI p l e R s m args below meth c cells slots cc nL ad D cI cZ A pc (oAld i 1) := by
  intro L st w r h
  unfold oAld at h
  dsimp only at h
  split at h
  · rename_i x hx
    cases h
    intro Q k H locs ls hP hS hl
    exact lv_aload_n cx.1 cx.2.1 hd hk (hl.2.2.2 i _ hx (by intro h; cases h)) (k H locs ls hP hS hl)
  · cases h
theorem ok_aload {pc : Nat} {i : Nat} (cx : CX p R s m args c cells slots cc nL own ad D cI cZ A) (hd : decode cc pc = .ok (.aload i, 2)) : OkI p l e R s m args below meth c cells slots cc nL ad D cI cZ A pc (oAld i 2) := by
  intro L st w r h
  unfold oAld at h
  dsimp only at h
  split at h
  · rename_i x hx
    cases h
    intro Q k H locs ls hP hS hl
    exact lv_aload cx.1 cx.2.1 hd (hl.2.2.2 i _ hx (by intro h; cases h)) (k H locs ls hP hS hl)
  · cases h
theorem ok_istore_n {pc : Nat} {i : Nat} {kn : Fin 4} (hk : (kn : Nat) = i) (cx : CX p R s m args c cells slots cc nL own ad D cI cZ A) (hd : decode cc pc = .ok (.istore_n kn, 1)) : OkI p l e R s m args below meth c cells slots cc nL ad D cI cZ A pc (oIst i 1) := by
  intro L st w r h
  unfold oIst at h
  dsimp only at h
  split at h
  · split at h
    · rename_i hb
      cases h
      rw [Bool.and_eq_true, Nat.blt_eq] at hb
      intro Q k H locs ls hP hS hl
      exact lv_istore_n cx.1 cx.2.1 hd hk hl.has (by rw [← hl.1]; exact hb.1) rfl (fun ls' h' => k H locs ls' hP hS (LR.st1 hl.1 hb.2 rfl h'))
    · cases h
  · cases h
theorem ok_istore {pc : Nat} {i : Nat} (cx : CX p R s m args c cells slots cc nL own ad D cI cZ A) (hd : decode cc pc = .ok (.istore i, 2)) : OkI p l e R s m args below meth c cells slots cc nL ad D cI cZ A pc (oIst i 2) := by
  intro L st w r h
  unfold oIst at h
  dsimp only at h
  split at h
  · split at h
    · rename_i hb
      cases h
      rw [Bool.and_eq_true, Nat.blt_eq] at hb
      intro Q k H locs ls hP hS hl
      exact lv_istore cx.1 cx.2.1 hd hl.has (by rw [← hl.1]; exact hb.1) rfl (fun ls' h' => k H locs ls' hP hS (LR.st1 hl.1 hb.2 rfl h'))
    · cases h
  · cases h
theorem ok_astore_n {pc : Nat} {i : Nat} {kn : Fin 4} (hk : (kn : Nat) = i) (cx : CX p R s m args c cells slots cc nL own ad D cI cZ A) (hd : decode cc pc = .ok (.astore_n kn, 1)) : OkI p l e R s m args below meth c cells slots cc nL ad D cI cZ A pc (oAst i 1) := by
  intro L st w r h
  unfold oAst at h
  dsimp only at h
  split at h
  · split at h
    · rename_i hb
      cases h
      rw [Bool.and_eq_true, Nat.blt_eq] at hb
      intro Q k H locs ls hP hS hl
      exact lv_astore_n cx.1 cx.2.1 hd hk hl.has (by rw [← hl.1]; exact hb.1) rfl (fun ls' h' => k H locs ls' hP hS (LR.st1 hl.1 hb.2 rfl h'))
    · cases h
  · cases h
theorem ok_astore {pc : Nat} {i : Nat} (cx : CX p R s m args c cells slots cc nL own ad D cI cZ A) (hd : decode cc pc = .ok (.astore i, 2)) : OkI p l e R s m args below meth c cells slots cc nL ad D cI cZ A pc (oAst i 2) := by
  intro L st w r h
  unfold oAst at h
  dsimp only at h
  split at h
  · split at h
    · rename_i hb
      cases h
      rw [Bool.and_eq_true, Nat.blt_eq] at hb
      intro Q k H locs ls hP hS hl
      exact lv_astore cx.1 cx.2.1 hd hl.has (by rw [← hl.1]; exact hb.1) rfl (fun ls' h' => k H locs ls' hP hS (LR.st1 hl.1 hb.2 rfl h'))
    · cases h
  · cases h
theorem ok_lstore_n {pc : Nat} {i : Nat} {kn : Fin 4} (hk : (kn : Nat) = i) (cx : CX p R s m args c cells slots cc nL own ad D cI cZ A) (hd : decode cc pc = .ok (.lstore_n kn, 1)) : OkI p l e R s m args below meth c cells slots cc nL ad D cI cZ A pc (oLst i 1) := by
  intro L st w r h
  unfold oLst at h
  dsimp only at h
  split at h
  · split at h
    · rename_i hb
      cases h
      rw [Bool.and_eq_true, Nat.blt_eq] at hb
      intro Q k H locs ls hP hS hl
      exact lv_lstore_n cx.1 cx.2.1 hd hk hl.has (by rw [← hl.1]; exact hb.1) rfl (fun ls' h' => k H locs ls' hP hS (LR.st2 hl.1 hb.2 rfl h'))
    · cases h
  · cases h
theorem ok_lstore {pc : Nat} {i : Nat} (cx : CX p R s m args c cells slots cc nL own ad D cI cZ A) (hd : decode cc pc = .ok (.lstore i, 2)) : OkI p l e R s m args below meth c cells slots cc nL ad D cI cZ A pc (oLst i 2) := by
  intro L st w r h
  unfold oLst at h
  dsimp only at h
  split at h
  · split at h
    · rename_i hb
      cases h
      rw [Bool.and_eq_true, Nat.blt_eq] at hb
      intro Q k H locs ls hP hS hl
      exact lv_lstore cx.1 cx.2.1 hd hl.has (by rw [← hl.1]; exact hb.1) rfl (fun ls' h' => k H locs ls' hP hS (LR.st2 hl.1 hb.2 rfl h'))
    · cases h
  · cases h
theorem ok_iinc {pc i : Nat} {n : Int} {v : Int32} (hv : Int32.ofInt n = v) (cx : CX p R s m args c cells slots cc nL own ad D cI cZ A) (hd : decode cc pc = .ok (.iinc i n, 3)) : OkI p l e R s m args below meth c cells slots cc nL ad D cI cZ A pc (oInc i v) := by
  intro L st w r h
  unfold oInc at h
  dsimp only at h
  split at h
  · rename_i x hx
    split at h
    · rename_i hb
      cases h
      rw [Bool.and_eq_true, Nat.blt_eq] at hb
      intro Q k H locs ls hP hS hl
      obtain ⟨j, hj⟩ := List.getElem?_of_mem (Lp_mem (ad := ad) hx (by intro h; cases h))
      exact lv_iinc (v := x + v) cx.1 cx.2.1 hd hl.has hj (by rw [hv]) (by rw [← hl.1]; exact hb.1) rfl (fun ls' h' => k H locs ls' hP hS (LR.st1 hl.1 hb.2 rfl h'))
    · cases h
  · cases h
theorem ok_If_eq {pc tgt : Nat} {off : Int} (ht : (pc : Int) + off = (tgt : Int)) (cx : CX p R s m args c cells slots cc nL own ad D cI cZ A) (hd : decode cc pc = .ok (.ifCond .eq off, 3)) : OkI p l e R s m args below meth c cells slots cc nL ad D cI cZ A pc (oIf_eq tgt) := by
  intro L st w r h
  unfold oIf_eq at h
  dsimp only at h
  split at h
  · cases h
    intro Q k H locs ls hP hS hl
    have k1 := k H locs ls hP hS hl
    dsimp only at k1
    refine lv_if_eq cx.1 cx.2.1 hd ht (fun hc => ?_) (fun hc => ?_)
    · rw [if_pos hc] at k1; exact k1
    · rw [if_neg hc] at k1; exact k1
  · cases h
theorem ok_Ic_eq {pc tgt : Nat} {off : Int} (ht : (pc : Int) + off = (tgt : Int)) (cx : CX p R s m args c cells slots cc nL own ad D cI cZ A) (hd : decode cc pc = .ok (.if_icmp .eq off, 3)) : OkI p l e R s m args below meth c cells slots cc nL ad D cI cZ A pc (oIc_eq tgt) := by
  intro L st w r h
  unfold oIc_eq at h
  dsimp only at h
  split at h
  · cases h
    intro Q k H locs ls hP hS hl
    have k1 := k H locs ls hP hS hl
    dsimp only at k1
    refine lv_icmp_eq cx.1 cx.2.1 hd ht (fun hc => ?_) (fun hc => ?_)
    · rw [if_pos hc] at k1; exact k1
    · rw [if_neg hc] at k1; exact k1
  · cases h
theorem ok_If_ne {pc tgt : Nat} {off : Int} (ht : (pc : Int) + off = (tgt : Int)) (cx : CX p R s m args c cells slots cc nL own ad D cI cZ A) (hd : decode cc pc = .ok (.ifCond .ne off, 3)) : OkI p l e R s m args below meth c cells slots cc nL ad D cI cZ A pc (oIf_ne tgt) := by
  intro L st w r h
  unfold oIf_ne at h
  dsimp only at h
  split at h
  · cases h
    intro Q k H locs ls hP hS hl
    have k1 := k H locs ls hP hS hl
    dsimp only at k1
    refine lv_if_ne cx.1 cx.2.1 hd ht (fun hc => ?_) (fun hc => ?_)
    · rw [if_neg hc] at k1; exact k1
    · rw [if_pos hc] at k1; exact k1
  · cases h
theorem ok_Ic_ne {pc tgt : Nat} {off : Int} (ht : (pc : Int) + off = (tgt : Int)) (cx : CX p R s m args c cells slots cc nL own ad D cI cZ A) (hd : decode cc pc = .ok (.if_icmp .ne off, 3)) : OkI p l e R s m args below meth c cells slots cc nL ad D cI cZ A pc (oIc_ne tgt) := by
  intro L st w r h
  unfold oIc_ne at h
  dsimp only at h
  split at h
  · cases h
    intro Q k H locs ls hP hS hl
    have k1 := k H locs ls hP hS hl
    dsimp only at k1
    refine lv_icmp_ne cx.1 cx.2.1 hd ht (fun hc => ?_) (fun hc => ?_)
    · rw [if_neg hc] at k1; exact k1
    · rw [if_pos hc] at k1; exact k1
  · cases h
theorem ok_If_lt {pc tgt : Nat} {off : Int} (ht : (pc : Int) + off = (tgt : Int)) (cx : CX p R s m args c cells slots cc nL own ad D cI cZ A) (hd : decode cc pc = .ok (.ifCond .lt off, 3)) : OkI p l e R s m args below meth c cells slots cc nL ad D cI cZ A pc (oIf_lt tgt) := by
  intro L st w r h
  unfold oIf_lt at h
  dsimp only at h
  split at h
  · cases h
    intro Q k H locs ls hP hS hl
    have k1 := k H locs ls hP hS hl
    dsimp only at k1
    refine lv_if_lt cx.1 cx.2.1 hd ht (fun hc => ?_) (fun hc => ?_)
    · rw [if_pos hc] at k1; exact k1
    · rw [if_neg hc] at k1; exact k1
  · cases h
theorem ok_Ic_lt {pc tgt : Nat} {off : Int} (ht : (pc : Int) + off = (tgt : Int)) (cx : CX p R s m args c cells slots cc nL own ad D cI cZ A) (hd : decode cc pc = .ok (.if_icmp .lt off, 3)) : OkI p l e R s m args below meth c cells slots cc nL ad D cI cZ A pc (oIc_lt tgt) := by
  intro L st w r h
  unfold oIc_lt at h
  dsimp only at h
  split at h
  · cases h
    intro Q k H locs ls hP hS hl
    have k1 := k H locs ls hP hS hl
    dsimp only at k1
    refine lv_icmp_lt cx.1 cx.2.1 hd ht (fun hc => ?_) (fun hc => ?_)
    · rw [if_pos hc] at k1; exact k1
    · rw [if_neg hc] at k1; exact k1
  · cases h
theorem ok_If_ge {pc tgt : Nat} {off : Int} (ht : (pc : Int) + off = (tgt : Int)) (cx : CX p R s m args c cells slots cc nL own ad D cI cZ A) (hd : decode cc pc = .ok (.ifCond .ge off, 3)) : OkI p l e R s m args below meth c cells slots cc nL ad D cI cZ A pc (oIf_ge tgt) := by
  intro L st w r h
  unfold oIf_ge at h
  dsimp only at h
  split at h
  · cases h
    intro Q k H locs ls hP hS hl
    have k1 := k H locs ls hP hS hl
    dsimp only at k1
    refine lv_if_ge cx.1 cx.2.1 hd ht (fun hc => ?_) (fun hc => ?_)
    · rw [if_pos hc] at k1; exact k1
    · rw [if_neg hc] at k1; exact k1
  · cases h
theorem ok_Ic_ge {pc tgt : Nat} {off : Int} (ht : (pc : Int) + off = (tgt : Int)) (cx : CX p R s m args c cells slots cc nL own ad D cI cZ A) (hd : decode cc pc = .ok (.if_icmp .ge off, 3)) : OkI p l e R s m args below meth c cells slots cc nL ad D cI cZ A pc (oIc_ge tgt) := by
  intro L st w r h
  unfold oIc_ge at h
  dsimp only at h
  split at h
  · cases h
    intro Q k H locs ls hP hS hl
    have k1 := k H locs ls hP hS hl
    dsimp only at k1
    refine lv_icmp_ge cx.1 cx.2.1 hd ht (fun hc => ?_) (fun hc => ?_)
    · rw [if_pos hc] at k1; exact k1
    · rw [if_neg hc] at k1; exact k1
  · cases h
theorem ok_If_gt {pc tgt : Nat} {off : Int} (ht : (pc : Int) + off = (tgt : Int)) (cx : CX p R s m args c cells slots cc nL own ad D cI cZ A) (hd : decode cc pc = .ok (.ifCond .gt off, 3)) : OkI p l e R s m args below meth c cells slots cc nL ad D cI cZ A pc (oIf_gt tgt) := by
  intro L st w r h
  unfold oIf_gt at h
  dsimp only at h
  split at h
  · cases h
    intro Q k H locs ls hP hS hl
    have k1 := k H locs ls hP hS hl
    dsimp only at k1
    refine lv_if_gt cx.1 cx.2.1 hd ht (fun hc => ?_) (fun hc => ?_)
    · rw [if_pos hc] at k1; exact k1
    · rw [if_neg hc] at k1; exact k1
  · cases h
theorem ok_Ic_gt {pc tgt : Nat} {off : Int} (ht : (pc : Int) + off = (tgt : Int)) (cx : CX p R s m args c cells slots cc nL own ad D cI cZ A) (hd : decode cc pc = .ok (.if_icmp .gt off, 3)) : OkI p l e R s m args below meth c cells slots cc nL ad D cI cZ A pc (oIc_gt tgt) := by
  intro L st w r h
  unfold oIc_gt at h
  dsimp only at h
  split at h
  · cases h
    intro Q k H locs ls hP hS hl
    have k1 := k H locs ls hP hS hl
    dsimp only at k1
    refine lv_icmp_gt cx.1 cx.2.1 hd ht (fun hc => ?_) (fun hc => ?_)
    · rw [if_pos hc] at k1; exact k1
    · rw [if_neg hc] at k1; exact k1
  · cases h
theorem ok_If_le {pc tgt : Nat} {off : Int} (ht : (pc : Int) + off = (tgt : Int)) (cx : CX p R s m args c cells slots cc nL own ad D cI cZ A) (hd : decode cc pc = .ok (.ifCond .le off, 3)) : OkI p l e R s m args below meth c cells slots cc nL ad D cI cZ A pc (oIf_le tgt) := by
  intro L st w r h
  unfold oIf_le at h
  dsimp only at h
  split at h
  · cases h
    intro Q k H locs ls hP hS hl
    have k1 := k H locs ls hP hS hl
    dsimp only at k1
    refine lv_if_le cx.1 cx.2.1 hd ht (fun hc => ?_) (fun hc => ?_)
    · rw [if_pos hc] at k1; exact k1
    · rw [if_neg hc] at k1; exact k1
  · cases h
theorem ok_Ic_le {pc tgt : Nat} {off : Int} (ht : (pc : Int) + off = (tgt : Int)) (cx : CX p R s m args c cells slots cc nL own ad D cI cZ A) (hd : decode cc pc = .ok (.if_icmp .le off, 3)) : OkI p l e R s m args below meth c cells slots cc nL ad D cI cZ A pc (oIc_le tgt) := by
  intro L st w r h
  unfold oIc_le at h
  dsimp only at h
  split at h
  · cases h
    intro Q k H locs ls hP hS hl
    have k1 := k H locs ls hP hS hl
    dsimp only at k1
    refine lv_icmp_le cx.1 cx.2.1 hd ht (fun hc => ?_) (fun hc => ?_)
    · rw [if_pos hc] at k1; exact k1
    · rw [if_neg hc] at k1; exact k1
  · cases h
theorem ok_goto {pc tgt : Nat} {off : Int} (ht : (pc : Int) + off = (tgt : Int)) (cx : CX p R s m args c cells slots cc nL own ad D cI cZ A) (hd : decode cc pc = .ok (.goto off, 3)) : OkI p l e R s m args below meth c cells slots cc nL ad D cI cZ A pc (oGoto tgt) := by
  intro L st w r h
  cases h
  intro Q k H locs ls hP hS hl
  exact lv_goto cx.1 cx.2.1 hd ht (k H locs ls hP hS hl)
theorem tsel_hit {x : Int32} {ps : List (Int32 × Nat)} {d t j : Nat} (hj : ps[j]? = some (x, t)) (hu : ∀ (i : Nat) (v : Int32) (u : Nat), i < j → ps[i]? = some (v, u) → x ≠ v) : tsel x ps d = t := by
  induction ps generalizing j with
  | nil => simp at hj
  | cons q ps ih =>
    obtain ⟨v, u⟩ := q
    unfold tsel
    cases j with
    | zero =>
      simp at hj
      rw [if_pos hj.1.symm]
      exact hj.2
    | succ j =>
      rw [if_neg (hu 0 v u (Nat.succ_pos j) rfl)]
      exact ih (by simpa using hj) (fun i v' u' hi h' => hu (i + 1) v' u' (by omega) (by simpa using h'))
theorem tsel_out {x : Int32} {ps : List (Int32 × Nat)} {d : Nat} (hu : ∀ (i : Nat) (v : Int32) (u : Nat), ps[i]? = some (v, u) → x ≠ v) : tsel x ps d = d := by
  induction ps with
  | nil => rfl
  | cons q ps ih =>
    obtain ⟨v, u⟩ := q
    unfold tsel
    rw [if_neg (hu 0 v u rfl)]
    exact ih (fun i v' u' h' => hu (i + 1) v' u' (by simpa using h'))
def tswOk (pc : Nat) (dflt lo hi : Int) (offs : Array Int) (ps : List (Int32 × Nat)) (d : Nat) : Bool :=
  (pc : Int) + dflt == (d : Int) && hi == lo + (ps.length : Int) - 1 && (List.range ps.length).all fun j => match ps[j]?, offs[j]? with
    | some (v, t), some off => v.toInt == lo + (j : Int) && (pc : Int) + off == (t : Int)
    | _, _ => false
theorem ok_tsw {pc d len : Nat} {dflt lo hi : Int} {offs : Array Int} {ps : List (Int32 × Nat)} (hok : tswOk pc dflt lo hi offs ps d = true) (cx : CX p R s m args c cells slots cc nL own ad D cI cZ A) (hd : decode cc pc = .ok (.tableswitch dflt lo hi offs, len)) : OkI p l e R s m args below meth c cells slots cc nL ad D cI cZ A pc (oTsw ps d) := by
  intro L st w r h
  unfold tswOk at hok
  rw [Bool.and_eq_true, Bool.and_eq_true, beq_iff_eq, beq_iff_eq, List.all_eq_true] at hok
  obtain ⟨⟨h1, h2⟩, h3⟩ := hok
  have row : ∀ j, j < ps.length → ∃ v t off, ps[j]? = some (v, t) ∧ offs[j]? = some off ∧ v.toInt = lo + (j : Int) ∧ (pc : Int) + off = (t : Int) := by
    intro j hj
    have h4 := h3 j (List.mem_range.mpr hj)
    split at h4
    · rename_i v t off e1 e2
      rw [Bool.and_eq_true, beq_iff_eq, beq_iff_eq] at h4
      exact ⟨v, t, off, e1, e2, h4.1, h4.2⟩
    · cases h4
  unfold oTsw at h
  dsimp only at h
  split at h
  · rename_i _ x _
    cases h
    intro Q k H locs ls hP hS hl
    have k1 := k H locs ls hP hS hl
    dsimp only at k1
    by_cases ho : x.toInt < lo ∨ hi < x.toInt
    · rw [tsel_out (fun i v u hi' => by
        have hlt := (List.getElem?_eq_some_iff.mp hi').1
        obtain ⟨v', t', off, e1, e2, e3, e4⟩ := row i hlt
        rw [hi'] at e1
        cases e1
        intro hxv
        rw [hxv] at ho
        omega)] at k1
      exact lv_tableOut cx.1 cx.2.1 hd ho h1 k1
    · have ho1 : ¬ x.toInt < lo := fun q => ho (Or.inl q)
      have ho2 : ¬ hi < x.toInt := fun q => ho (Or.inr q)
      have hj : (x.toInt - lo).toNat < ps.length := by omega
      obtain ⟨v, t, off, e1, e2, e3, e4⟩ := row _ hj
      have hxv : v = x := Int32.toInt_inj.mp (by rw [e3]; omega)
      subst hxv
      rw [tsel_hit e1 (fun i v' u hij hi' => by
        have hlt := (List.getElem?_eq_some_iff.mp hi').1
        obtain ⟨v2, t2, off2, g1, g2, g3, g4⟩ := row i hlt
        rw [hi'] at g1
        cases g1
        intro hxv
        rw [← hxv] at g3
        omega)] at k1
      exact lv_tableIn cx.1 cx.2.1 hd ho1 ho2 e2 e4 k1
  · cases h
theorem ok_fg {pc : Nat} {op : Op} (ks : List Nat) (h : OkI p l e R s m args below meth c cells slots cc nL ad D cI cZ A pc op) : OkI p l e R s m args below meth c cells slots cc nL ad D cI cZ A pc (oFg ks op) := by
  intro L st w r hr
  have h1 := h (fgt L ks) st w r hr
  cases r with
  | inl q => exact fun Q k H locs ls hP hS hl => h1 Q k H locs ls hP hS (LR_fgt ks hl)
  | inr q => exact h1
theorem ok_retI {pc : Nat} (hr : meth.sig.returnType = some .int) (hd : decode cc pc = .ok (.ireturn, 1)) : OkI p l e R s m args below meth c cells slots cc nL ad D cI cZ A pc oRetI := by
  intro L st w r h
  unfold oRetI at h
  dsimp only at h
  split at h
  · rename_i v
    cases h
    exact ⟨rfl, rfl, Or.inl ⟨v, .int, rfl, hd, hr, rfl⟩⟩
  · cases h
theorem ok_retZ {pc : Nat} (hr : meth.sig.returnType = some .boolean) (hd : decode cc pc = .ok (.ireturn, 1)) : OkI p l e R s m args below meth c cells slots cc nL ad D cI cZ A pc oRetZ := by
  intro L st w r h
  unfold oRetZ at h
  dsimp only at h
  split at h
  · rename_i v
    split at h
    · rename_i hv
      cases h
      refine ⟨rfl, rfl, Or.inl ⟨v, .boolean, rfl, hd, hr, ?_⟩⟩
      rcases hv with rfl | rfl <;> decide
    · cases h
  · cases h
theorem ok_retN {pc : Nat} {ty : FieldType} (hr : meth.sig.returnType = some ty) (hd : decode cc pc = .ok (.ireturn, 1)) : OkI p l e R s m args below meth c cells slots cc nL ad D cI cZ A pc (oRetN ty) := by
  intro L st w r h
  unfold oRetN at h
  dsimp only at h
  split at h
  · rename_i v
    split at h
    · rename_i hv
      cases h
      exact ⟨rfl, rfl, Or.inl ⟨v, ty, rfl, hd, hr, hv⟩⟩
    · cases h
  · cases h
theorem ok_retL {pc : Nat} (hr : meth.sig.returnType = some .long) (hd : decode cc pc = .ok (.lreturn, 1)) : OkI p l e R s m args below meth c cells slots cc nL ad D cI cZ A pc oRetL := by
  intro L st w r h
  unfold oRetL at h
  dsimp only at h
  split at h
  · rename_i v
    cases h
    exact ⟨rfl, rfl, Or.inr (Or.inl ⟨v, rfl, hd, hr⟩)⟩
  · cases h
theorem ok_retV {pc : Nat} (hr : meth.sig.returnType = none) (hd : decode cc pc = .ok (.return_, 1)) : OkI p l e R s m args below meth c cells slots cc nL ad D cI cZ A pc oRetV := by
  intro L st w r h
  unfold oRetV at h
  dsimp only at h
  split at h
  · cases h
    exact ⟨rfl, rfl, Or.inr (Or.inr ⟨rfl, hd, hr⟩)⟩
  · cases h
end OPS2

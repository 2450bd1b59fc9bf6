/-! what stays for the whole run: the words, the constant texts, two statics, the nest's links -/
def GW : List Cond := lw_tbl.filter goodWord
def stI : List Nat := [145, 151, 153, 155, 157, 159]
def stT : List String := ["spell", "thing", "pupil", "swap", "copy", "hum"]
def stL : List Nat := [5, 5, 5, 4, 4, 3]
def stB : List (List Int32) := [[115, 112, 101, 108, 108], [116, 104, 105, 110, 103], [112, 117, 112, 105, 108], [115, 119, 97, 112], [99, 111, 112, 121], [104, 117, 109]]
def NWl : List (String × Nat × MethodName) := [(RX3, 22, yX8_put), (RX3, 95, yX8_at), (RX5, 55, yX8_put), (RX5, 59, yX8_at), (RX7, 36, yX8_put), (RX7, 50, yX8_at), (RX6, 49, yX8_at), (RX6, 65, yX8_put), (RX1, 25, yX8_put), (RX1, 53, yX8_at), (RX8, 219, yX0_isWon)]
def EN (ad : Nat → Nat) (A : Nat → Prop) (s : State) : Prop :=
  vk_S 6 stL stB (fun i => ad (100 + i)) (fun i => ad (200 + i)) A s s.heap ∧
  (∀ i : Nat, i < 6 → vk_R RX3 (stI.getD i 0) (stT.getD i "") (ad (100 + i)) s) ∧
  va_Z "java/lang/String" "COMPACT_STRINGS" "Z" (.int 1) A s s.heap ∧
  va_Z "jdk/internal/util/Preconditions" "SIOOBE_FORMATTER" "Ljava/util/function/BiFunction;" (mv ad (.retAddr 0)) A s s.heap ∧
  ∀ q ∈ NWl, va_Nw (.methodLinkNest q.1 q.2.1 q.2.2 "SpellLayers") s
abbrev tyL (cI cZ : ClassId) : List (ClassId × FieldType) := [(cI, .int), (cZ, .boolean)]
def DJ (ad : Nat → Nat) (A : Nat → Prop) : Prop := (∀ i j : Nat, i < 53 → j < 53 → ad i = ad j → i = j) ∧ ∀ k : Nat, k < 53 → A (ad k)
theorem DJ.D {ad : Nat → Nat} {A : Nat → Prop} {cI cZ : ClassId} {w : Wd} (h : DJ ad A) : va_D A (wld ad cI cZ w) := by
  have key : ∀ (i : Nat) (q : Nat × va_E), (wld ad cI cZ w)[i]? = some q → i < 53 ∧ q.1 = ad i := by
    intro i q hq
    have hi : i < 53 := by
      have := (List.getElem?_eq_some_iff.mp hq).1
      rwa [wld_len] at this
    rw [wld_at hi] at hq
    cases hq
    exact ⟨hi, rfl⟩
  refine ⟨fun i j x y hx hy hxy => ?_, fun k q hq => ?_⟩
  · obtain ⟨h1, h2⟩ := key i x hx
    obtain ⟨h3, h4⟩ := key j y hy
    exact h.1 i j h1 h3 (by rw [← h2, ← h4]; exact hxy)
  · obtain ⟨h1, h2⟩ := key k q hq
    rw [h2]; exact h.2 k h1
section MIC
variable (p : Program) (l : Launch) (e : Env) (R : Room) (s : State) (m : MethodId) (args : Array Value) (below : List Frame) (meth : Method) (c : Code) (cells slots : Nat) (cc : ByteArray) (nL : Nat) (own : String) (ad : Nat → Nat) (D : va_G) (cI cZ : ClassId) (A : Nat → Prop)
def CX : Prop := p.tables.exec = Jvm.exec ∧ c.code = cc ∧ c.maxLocals = nL ∧ s.vm.findClass own = some m.cls ∧ (∀ w ∈ GW, w.before args s = true) ∧ va_K D vwCl (tyL cI cZ) s ∧ DJ ad A ∧ EN ad A s ∧ (cells ≤ R.cells ∧ slots ≤ R.slots) ∧ 1 ≤ R.frames ∧ 40 ≤ R.locals
/-- the machine stands at a place of the micro machine, and comes to Q -/
def At (Q : State → Prop) (q : Mu) : Prop := ∀ (H : Heap) (locs : List Loc) (ls : Array Slot), va_P D vwCl (wld ad cI cZ q.2.2.2) H → va_S A s.heap H locs → LR ad ls nL q.2.1 → W p l e R s m args below meth c H locs cells slots Q (F0 m q.1 ls (q.2.2.1.map (mv ad)))
/-- where a method ends -/
def RetAt (pc : Nat) (rv : Option Value) : Prop := (∃ (v : Int32) (ty : FieldType), rv = some (.int v) ∧ decode cc pc = .ok (.ireturn, 1) ∧ meth.sig.returnType = some ty ∧ narrow ty (.int v) = .int v) ∨ (∃ v : Int64, rv = some (.long v) ∧ decode cc pc = .ok (.lreturn, 1) ∧ meth.sig.returnType = some .long) ∨ (rv = none ∧ decode cc pc = .ok (.return_, 1) ∧ meth.sig.returnType = none)
def OkI (pc : Nat) (op : Op) : Prop := ∀ (L st : List Value) (w : Wd) (r : Mu ⊕ Rs), op (pc, L, st, w) = some r → match r with
  | .inl q => ∀ Q : State → Prop, At p l e R s m args below meth c cells slots nL ad D cI cZ A Q q → At p l e R s m args below meth c cells slots nL ad D cI cZ A Q (pc, L, st, w)
  | .inr q => q.2 = w ∧ st = q.1.toList ∧ RetAt meth cc pc q.1
end MIC
/-! ops of the stack alone -/
def pS (f : List Value → Option (List Value)) (len : Nat) : Op := fun q => match f q.2.2.1 with
  | some st => some (.inl (q.1 + len, q.2.1, st, q.2.2.2))
  | none => none
def fB (g : Int32 → Int32 → Int32) : List Value → Option (List Value)
  | .int y :: .int x :: st => some (.int (g x y) :: st)
  | _ => none
def fBL (g : Int64 → Int64 → Int64) : List Value → Option (List Value)
  | .long y :: .long x :: st => some (.long (g x y) :: st)
  | _ => none
def fSL (g : Int64 → Int32 → Int64) : List Value → Option (List Value)
  | .int y :: .long x :: st => some (.long (g x y) :: st)
  | _ => none
def fDv (g : Int32 → Int32 → Int32) : List Value → Option (List Value)
  | .int y :: .int x :: st => if y = 0 then none else some (.int (g x y) :: st)
  | _ => none
def fDL (g : Int64 → Int64 → Int64) : List Value → Option (List Value)
  | .long y :: .long x :: st => if y = 0 then none else some (.long (g x y) :: st)
  | _ => none
def fCmp : List Value → Option (List Value)
  | .long y :: .long x :: st => some (.int (lg_cmp x y) :: st)
  | _ => none
def fUn (g : Int32 → Int32) : List Value → Option (List Value)
  | .int x :: st => some (.int (g x) :: st)
  | _ => none
def fI2l : List Value → Option (List Value)
  | .int x :: st => some (.long x.toInt64 :: st)
  | _ => none
def fL2i : List Value → Option (List Value)
  | .long x :: st => some (.int x.toInt32 :: st)
  | _ => none
def fPush (v : Value) : List Value → Option (List Value) := fun st => some (v :: st)
def fDup : List Value → Option (List Value)
  | v :: st => if v.category = 1 then some (v :: v :: st) else none
  | _ => none
def fDup2 : List Value → Option (List Value)
  | v :: u :: st => if v.category = 1 ∧ u.category = 1 then some (v :: u :: v :: u :: st) else none
  | _ => none
def fDup2L : List Value → Option (List Value)
  | v :: st => if v.category = 2 then some (v :: v :: st) else none
  | _ => none
def fPop : List Value → Option (List Value)
  | v :: st => if v.category = 1 then some st else none
  | _ => none
def csum (st : List Value) : Nat := (st.map fun v => v.category).sum
def fMax : List Value → Option (List Value)
  | .int y :: .int x :: st => if csum st ≤ 8 then some (.int (if x < y then y else x) :: st) else none
  | _ => none
def fMin : List Value → Option (List Value)
  | .int y :: .int x :: st => if csum st ≤ 8 then some (.int (if y < x then y else x) :: st) else none
  | _ => none
theorem csum_mv (ad : Nat → Nat) (st : List Value) : ((st.map (mv ad)).map fun v => v.category).sum = csum st := by
  induction st with
  | nil => rfl
  | cons v t ih =>
    simp only [List.map_cons, List.sum_cons, csum, mv_cat] at ih ⊢
    omega
section OPS
variable {p : Program} {l : Launch} {e : Env} {R : Room} {s : State} {m : MethodId} {args : Array Value} {below : List Frame} {meth : Method} {c : Code} {cells slots : Nat} {cc : ByteArray} {nL : Nat} {own : String} {ad : Nat → Nat} {D : va_G} {cI cZ : ClassId} {A : Nat → Prop}
abbrev CXA (p : Program) (R : Room) (s : State) (m : MethodId) (args : Array Value) (c : Code) (cells slots : Nat) (cc : ByteArray) (nL : Nat) (own : String) (ad : Nat → Nat) (D : va_G) (cI cZ : ClassId) (A : Nat → Prop) : Prop := CX p R s m args c cells slots cc nL own ad D cI cZ A
theorem ok_pS {f : List Value → Option (List Value)} {len pc : Nat}
    (hf : ∀ st st', f st = some st' → ∀ (Q : State → Prop) (H : Heap) (locs : List Loc) (ls : Array Slot), ls.size = nL → W p l e R s m args below meth c H locs cells slots Q (F0 m (pc + len) ls (st'.map (mv ad))) → W p l e R s m args below meth c H locs cells slots Q (F0 m pc ls (st.map (mv ad)))) :
    OkI p l e R s m args below meth c cells slots cc nL ad D cI cZ A pc (pS f len) := by
  intro L st w r h
  unfold pS at h
  dsimp only at h
  cases hst : f st with
  | none => rw [hst] at h; cases h
  | some st' =>
    rw [hst] at h
    cases h
    intro Q k H locs ls hP hS hl
    exact hf st st' hst Q H locs ls hl.2.1 (k H locs ls hP hS hl)
theorem ok_iadd {pc : Nat} (cx : CX p R s m args c cells slots cc nL own ad D cI cZ A) (hd : decode cc pc = .ok (.iadd, 1)) : OkI p l e R s m args below meth c cells slots cc nL ad D cI cZ A pc (pS (fB (fun x y => x + y)) 1) := by
  refine ok_pS (fun st st' h Q H locs ls _ k => ?_)
  unfold fB at h
  split at h
  · cases h
    exact lv_iadd cx.1 cx.2.1 hd k
  · cases h

theorem ok_isub {pc : Nat} (cx : CX p R s m args c cells slots cc nL own ad D cI cZ A) (hd : decode cc pc = .ok (.isub, 1)) : OkI p l e R s m args below meth c cells slots cc nL ad D cI cZ A pc (pS (fB (fun x y => x - y)) 1) := by
  refine ok_pS (fun st st' h Q H locs ls _ k => ?_)
  unfold fB at h
  split at h
  · cases h
    exact lv_isub cx.1 cx.2.1 hd k
  · cases h

theorem ok_imul {pc : Nat} (cx : CX p R s m args c cells slots cc nL own ad D cI cZ A) (hd : decode cc pc = .ok (.imul, 1)) : OkI p l e R s m args below meth c cells slots cc nL ad D cI cZ A pc (pS (fB (fun x y => x * y)) 1) := by
  refine ok_pS (fun st st' h Q H locs ls _ k => ?_)
  unfold fB at h
  split at h
  · cases h
    exact lv_imul cx.1 cx.2.1 hd k
  · cases h

theorem ok_iand {pc : Nat} (cx : CX p R s m args c cells slots cc nL own ad D cI cZ A) (hd : decode cc pc = .ok (.iand, 1)) : OkI p l e R s m args below meth c cells slots cc nL ad D cI cZ A pc (pS (fB (fun x y => x &&& y)) 1) := by
  refine ok_pS (fun st st' h Q H locs ls _ k => ?_)
  unfold fB at h
  split at h
  · cases h
    exact lv_iand cx.1 cx.2.1 hd k
  · cases h

theorem ok_ior {pc : Nat} (cx : CX p R s m args c cells slots cc nL own ad D cI cZ A) (hd : decode cc pc = .ok (.ior, 1)) : OkI p l e R s m args below meth c cells slots cc nL ad D cI cZ A pc (pS (fB (fun x y => x ||| y)) 1) := by
  refine ok_pS (fun st st' h Q H locs ls _ k => ?_)
  unfold fB at h
  split at h
  · cases h
    exact lv_ior cx.1 cx.2.1 hd k
  · cases h

theorem ok_ixor {pc : Nat} (cx : CX p R s m args c cells slots cc nL own ad D cI cZ A) (hd : decode cc pc = .ok (.ixor, 1)) : OkI p l e R s m args below meth c cells slots cc nL ad D cI cZ A pc (pS (fB (fun x y => x ^^^ y)) 1) := by
  refine ok_pS (fun st st' h Q H locs ls _ k => ?_)
  unfold fB at h
  split at h
  · cases h
    exact lv_ixor cx.1 cx.2.1 hd k
  · cases h

theorem ok_ishl {pc : Nat} (cx : CX p R s m args c cells slots cc nL own ad D cI cZ A) (hd : decode cc pc = .ok (.ishl, 1)) : OkI p l e R s m args below meth c cells slots cc nL ad D cI cZ A pc (pS (fB (fun x y => x <<< (y &&& 31))) 1) := by
  refine ok_pS (fun st st' h Q H locs ls _ k => ?_)
  unfold fB at h
  split at h
  · cases h
    exact lv_ishl cx.1 cx.2.1 hd k
  · cases h

theorem ok_ishr {pc : Nat} (cx : CX p R s m args c cells slots cc nL own ad D cI cZ A) (hd : decode cc pc = .ok (.ishr, 1)) : OkI p l e R s m args below meth c cells slots cc nL ad D cI cZ A pc (pS (fB (fun x y => x >>> (y &&& 31))) 1) := by
  refine ok_pS (fun st st' h Q H locs ls _ k => ?_)
  unfold fB at h
  split at h
  · cases h
    exact lv_ishr cx.1 cx.2.1 hd k
  · cases h

theorem ok_iushr {pc : Nat} (cx : CX p R s m args c cells slots cc nL own ad D cI cZ A) (hd : decode cc pc = .ok (.iushr, 1)) : OkI p l e R s m args below meth c cells slots cc nL ad D cI cZ A pc (pS (fB (fun x y => (x.toUInt32 >>> (y.toUInt32 &&& Int32.toUInt32 31)).toInt32)) 1) := by
  refine ok_pS (fun st st' h Q H locs ls _ k => ?_)
  unfold fB at h
  split at h
  · cases h
    exact lv_iushr cx.1 cx.2.1 hd rfl k
  · cases h

theorem ok_ladd {pc : Nat} (cx : CX p R s m args c cells slots cc nL own ad D cI cZ A) (hd : decode cc pc = .ok (.ladd, 1)) : OkI p l e R s m args below meth c cells slots cc nL ad D cI cZ A pc (pS (fBL (fun x y => x + y)) 1) := by
  refine ok_pS (fun st st' h Q H locs ls _ k => ?_)
  unfold fBL at h
  split at h
  · cases h
    exact lv_ladd cx.1 cx.2.1 hd k
  · cases h

theorem ok_lmul {pc : Nat} (cx : CX p R s m args c cells slots cc nL own ad D cI cZ A) (hd : decode cc pc = .ok (.lmul, 1)) : OkI p l e R s m args below meth c cells slots cc nL ad D cI cZ A pc (pS (fBL (fun x y => x * y)) 1) := by
  refine ok_pS (fun st st' h Q H locs ls _ k => ?_)
  unfold fBL at h
  split at h
  · cases h
    exact lv_lmul cx.1 cx.2.1 hd k
  · cases h

theorem ok_land {pc : Nat} (cx : CX p R s m args c cells slots cc nL own ad D cI cZ A) (hd : decode cc pc = .ok (.land, 1)) : OkI p l e R s m args below meth c cells slots cc nL ad D cI cZ A pc (pS (fBL (fun x y => x &&& y)) 1) := by
  refine ok_pS (fun st st' h Q H locs ls _ k => ?_)
  unfold fBL at h
  split at h
  · cases h
    exact lv_land cx.1 cx.2.1 hd k
  · cases h

theorem ok_lor {pc : Nat} (cx : CX p R s m args c cells slots cc nL own ad D cI cZ A) (hd : decode cc pc = .ok (.lor, 1)) : OkI p l e R s m args below meth c cells slots cc nL ad D cI cZ A pc (pS (fBL (fun x y => x ||| y)) 1) := by
  refine ok_pS (fun st st' h Q H locs ls _ k => ?_)
  unfold fBL at h
  split at h
  · cases h
    exact lv_lor cx.1 cx.2.1 hd k
  · cases h

theorem ok_lushr {pc : Nat} (cx : CX p R s m args c cells slots cc nL own ad D cI cZ A) (hd : decode cc pc = .ok (.lushr, 1)) : OkI p l e R s m args below meth c cells slots cc nL ad D cI cZ A pc (pS (fSL (fun x y => (x.toUInt64 >>> (y.toInt64.toUInt64 &&& Int64.toUInt64 63)).toInt64)) 1) := by
  refine ok_pS (fun st st' h Q H locs ls _ k => ?_)
  unfold fSL at h
  split at h
  · cases h
    exact lv_lushr cx.1 cx.2.1 hd rfl k
  · cases h

theorem ok_lshl {pc : Nat} (cx : CX p R s m args c cells slots cc nL own ad D cI cZ A) (hd : decode cc pc = .ok (.lshl, 1)) : OkI p l e R s m args below meth c cells slots cc nL ad D cI cZ A pc (pS (fSL (fun x y => x <<< (y.toInt64 &&& 63))) 1) := by
  refine ok_pS (fun st st' h Q H locs ls _ k => ?_)
  unfold fSL at h
  split at h
  · cases h
    exact lv_lshl cx.1 cx.2.1 hd rfl k
  · cases h

theorem ok_lshr {pc : Nat} (cx : CX p R s m args c cells slots cc nL own ad D cI cZ A) (hd : decode cc pc = .ok (.lshr, 1)) : OkI p l e R s m args below meth c cells slots cc nL ad D cI cZ A pc (pS (fSL (fun x y => x >>> (y.toInt64 &&& 63))) 1) := by
  refine ok_pS (fun st st' h Q H locs ls _ k => ?_)
  unfold fSL at h
  split at h
  · cases h
    exact lv_lshr cx.1 cx.2.1 hd rfl k
  · cases h

theorem ok_i2l {pc : Nat} (cx : CX p R s m args c cells slots cc nL own ad D cI cZ A) (hd : decode cc pc = .ok (.i2l, 1)) : OkI p l e R s m args below meth c cells slots cc nL ad D cI cZ A pc (pS (fI2l) 1) := by
  refine ok_pS (fun st st' h Q H locs ls _ k => ?_)
  unfold fI2l at h
  split at h
  · cases h
    exact lv_i2l cx.1 cx.2.1 hd rfl k
  · cases h

theorem ok_l2i {pc : Nat} (cx : CX p R s m args c cells slots cc nL own ad D cI cZ A) (hd : decode cc pc = .ok (.l2i, 1)) : OkI p l e R s m args below meth c cells slots cc nL ad D cI cZ A pc (pS (fL2i) 1) := by
  refine ok_pS (fun st st' h Q H locs ls _ k => ?_)
  unfold fL2i at h
  split at h
  · cases h
    exact lv_l2i cx.1 cx.2.1 hd rfl k
  · cases h

theorem ok_i2c {pc : Nat} (cx : CX p R s m args c cells slots cc nL own ad D cI cZ A) (hd : decode cc pc = .ok (.i2c, 1)) : OkI p l e R s m args below meth c cells slots cc nL ad D cI cZ A pc (pS (fUn (fun x => (x.toUInt32 % 65536).toInt32)) 1) := by
  refine ok_pS (fun st st' h Q H locs ls _ k => ?_)
  unfold fUn at h
  split at h
  · cases h
    exact lv_i2c cx.1 cx.2.1 hd rfl k
  · cases h

theorem ok_lcmp {pc : Nat} (cx : CX p R s m args c cells slots cc nL own ad D cI cZ A) (hd : decode cc pc = .ok (.lcmp, 1)) : OkI p l e R s m args below meth c cells slots cc nL ad D cI cZ A pc (pS (fCmp) 1) := by
  refine ok_pS (fun st st' h Q H locs ls _ k => ?_)
  unfold fCmp at h
  split at h
  · cases h
    exact W.lcmp cx.1 cx.2.1 hd k
  · cases h

theorem ok_idiv {pc : Nat} (cx : CX p R s m args c cells slots cc nL own ad D cI cZ A) (hd : decode cc pc = .ok (.idiv, 1)) : OkI p l e R s m args below meth c cells slots cc nL ad D cI cZ A pc (pS (fDv (fun x y => x / y)) 1) := by
  refine ok_pS (fun st st' h Q H locs ls _ k => ?_)
  unfold fDv at h
  split at h
  · split at h
    · cases h
    · rename_i hne
      cases h
      exact lv_idiv cx.1 cx.2.1 hd hne k
  · cases h

theorem ok_irem {pc : Nat} (cx : CX p R s m args c cells slots cc nL own ad D cI cZ A) (hd : decode cc pc = .ok (.irem, 1)) : OkI p l e R s m args below meth c cells slots cc nL ad D cI cZ A pc (pS (fDv (fun x y => x - x / y * y)) 1) := by
  refine ok_pS (fun st st' h Q H locs ls _ k => ?_)
  unfold fDv at h
  split at h
  · split at h
    · cases h
    · rename_i hne
      cases h
      exact lv_irem cx.1 cx.2.1 hd hne k
  · cases h

theorem ok_ldiv {pc : Nat} (cx : CX p R s m args c cells slots cc nL own ad D cI cZ A) (hd : decode cc pc = .ok (.ldiv, 1)) : OkI p l e R s m args below meth c cells slots cc nL ad D cI cZ A pc (pS (fDL (fun x y => x / y)) 1) := by
  refine ok_pS (fun st st' h Q H locs ls _ k => ?_)
  unfold fDL at h
  split at h
  · split at h
    · cases h
    · rename_i hne
      cases h
      exact lv_ldiv cx.1 cx.2.1 hd hne k
  · cases h

theorem ok_lrem {pc : Nat} (cx : CX p R s m args c cells slots cc nL own ad D cI cZ A) (hd : decode cc pc = .ok (.lrem, 1)) : OkI p l e R s m args below meth c cells slots cc nL ad D cI cZ A pc (pS (fDL (fun x y => x - x / y * y)) 1) := by
  refine ok_pS (fun st st' h Q H locs ls _ k => ?_)
  unfold fDL at h
  split at h
  · split at h
    · cases h
    · rename_i hne
      cases h
      exact lv_lrem cx.1 cx.2.1 hd hne k
  · cases h

theorem ok_dup {pc : Nat} (cx : CX p R s m args c cells slots cc nL own ad D cI cZ A) (hd : decode cc pc = .ok (.dup, 1)) : OkI p l e R s m args below meth c cells slots cc nL ad D cI cZ A pc (pS fDup 1) := by
  refine ok_pS (fun st st' h Q H locs ls _ k => ?_)
  unfold fDup at h
  split at h
  · split at h
    · rename_i hc
      cases h
      exact lv_dup cx.1 cx.2.1 hd (by rw [mv_cat]; exact hc) k
    · cases h
  · cases h

theorem ok_dup2L {pc : Nat} (cx : CX p R s m args c cells slots cc nL own ad D cI cZ A) (hd : decode cc pc = .ok (.dup2, 1)) : OkI p l e R s m args below meth c cells slots cc nL ad D cI cZ A pc (pS fDup2L 1) := by
  refine ok_pS (fun st st' h Q H locs ls _ k => ?_)
  unfold fDup2L at h
  split at h
  · split at h
    · rename_i hc
      cases h
      exact lv_dup2_2 cx.1 cx.2.1 hd (by rw [mv_cat]; exact hc) k
    · cases h
  · cases h

theorem ok_pop {pc : Nat} (cx : CX p R s m args c cells slots cc nL own ad D cI cZ A) (hd : decode cc pc = .ok (.pop, 1)) : OkI p l e R s m args below meth c cells slots cc nL ad D cI cZ A pc (pS fPop 1) := by
  refine ok_pS (fun st st' h Q H locs ls _ k => ?_)
  unfold fPop at h
  split at h
  · split at h
    · rename_i hc
      cases h
      exact lv_pop cx.1 cx.2.1 hd (by rw [mv_cat]; exact hc) k
    · cases h
  · cases h

theorem ok_dup2 {pc : Nat} (cx : CX p R s m args c cells slots cc nL own ad D cI cZ A) (hd : decode cc pc = .ok (.dup2, 1)) : OkI p l e R s m args below meth c cells slots cc nL ad D cI cZ A pc (pS fDup2 1) := by
  refine ok_pS (fun st st' h Q H locs ls _ k => ?_)
  unfold fDup2 at h
  split at h
  · split at h
    · rename_i hc
      cases h
      exact lv_dup2_11 cx.1 cx.2.1 hd (by rw [mv_cat]; exact hc.1) (by rw [mv_cat]; exact hc.2) k
    · cases h
  · cases h

theorem ok_iconst {pc : Nat} {n : Int} {v : Int32} (cx : CX p R s m args c cells slots cc nL own ad D cI cZ A) (hd : decode cc pc = .ok (.iconst n, 1)) (hv : Int32.ofInt n = v) : OkI p l e R s m args below meth c cells slots cc nL ad D cI cZ A pc (pS (fPush (.int v)) 1) := by
  refine ok_pS (fun st st' h Q H locs ls _ k => ?_)
  unfold fPush at h
  cases h
  exact lv_iconst cx.1 cx.2.1 hd hv k

theorem ok_bipush {pc : Nat} {n : Int} {v : Int32} (cx : CX p R s m args c cells slots cc nL own ad D cI cZ A) (hd : decode cc pc = .ok (.bipush n, 2)) (hv : (Int8.ofInt n).toInt32 = v) : OkI p l e R s m args below meth c cells slots cc nL ad D cI cZ A pc (pS (fPush (.int v)) 2) := by
  refine ok_pS (fun st st' h Q H locs ls _ k => ?_)
  unfold fPush at h
  cases h
  exact lv_bipush cx.1 cx.2.1 hd hv k

theorem ok_sipush {pc : Nat} {n : Int} {v : Int32} (cx : CX p R s m args c cells slots cc nL own ad D cI cZ A) (hd : decode cc pc = .ok (.sipush n, 3)) (hv : (Int16.ofInt n).toInt32 = v) : OkI p l e R s m args below meth c cells slots cc nL ad D cI cZ A pc (pS (fPush (.int v)) 3) := by
  refine ok_pS (fun st st' h Q H locs ls _ k => ?_)
  unfold fPush at h
  cases h
  exact lv_sipush cx.1 cx.2.1 hd hv k

theorem ok_lconst {pc : Nat} {n : Fin 2} {v : Int64} (cx : CX p R s m args c cells slots cc nL own ad D cI cZ A) (hd : decode cc pc = .ok (.lconst n, 1)) (hv : Int64.ofNat (n : Nat) = v) : OkI p l e R s m args below meth c cells slots cc nL ad D cI cZ A pc (pS (fPush (.long v)) 1) := by
  refine ok_pS (fun st st' h Q H locs ls _ k => ?_)
  unfold fPush at h
  cases h
  exact lv_lconst cx.1 cx.2.1 hd hv k

theorem ok_ldc {pc : Nat} {index : Nat} {v : Int32} (cx : CX p R s m args c cells slots cc nL own ad D cI cZ A) (hw : Cond.constant own index v ∈ GW) (hd : decode cc pc = .ok (.ldc index, 2)) : OkI p l e R s m args below meth c cells slots cc nL ad D cI cZ A pc (pS (fPush (.int v)) 2) := by
  refine ok_pS (fun st st' h Q H locs ls _ k => ?_)
  unfold fPush at h
  cases h
  exact lv_ldc cx.1 cx.2.1 cx.2.2.2.1 (cx.2.2.2.2.1 _ hw) hd k

theorem ok_ldcw {pc : Nat} {index : Nat} {v : Int32} (cx : CX p R s m args c cells slots cc nL own ad D cI cZ A) (hw : Cond.constant own index v ∈ GW) (hd : decode cc pc = .ok (.ldc_w index, 3)) : OkI p l e R s m args below meth c cells slots cc nL ad D cI cZ A pc (pS (fPush (.int v)) 3) := by
  refine ok_pS (fun st st' h Q H locs ls _ k => ?_)
  unfold fPush at h
  cases h
  exact lv_ldcw cx.1 cx.2.1 cx.2.2.2.1 (cx.2.2.2.2.1 _ hw) hd k

theorem ok_ldc2 {pc : Nat} {index : Nat} {v : Int64} (cx : CX p R s m args c cells slots cc nL own ad D cI cZ A) (hw : Cond.constantLong own index v ∈ GW) (hd : decode cc pc = .ok (.ldc2_w index, 3)) : OkI p l e R s m args below meth c cells slots cc nL ad D cI cZ A pc (pS (fPush (.long v)) 3) := by
  refine ok_pS (fun st st' h Q H locs ls _ k => ?_)
  unfold fPush at h
  cases h
  exact lv_ldc2 cx.1 cx.2.1 cx.2.2.2.1 (cx.2.2.2.2.1 _ hw) hd k

theorem ok_max {pc index : Nat} (hw1 : Cond.methodLink own index Lib.Math.max.name ∈ GW) (hw2 : Cond.static Lib.Math.max.name ∈ GW) (hw3 : Cond.initialized "java/lang/Math" ∈ GW) (hw4 : Cond.code Lib.Math.max.name Lib.Math.max.code 2 (some .int) ∈ GW) (cx : CX p R s m args c cells slots cc nL own ad D cI cZ A) (hd : decode cc pc = .ok (.invokestatic index, 3)) : OkI p l e R s m args below meth c cells slots cc nL ad D cI cZ A pc (pS fMax 3) := by
  refine ok_pS (fun st st' h Q H locs ls hz k => ?_)
  obtain ⟨h1, h2, h3, h4, h5, h6, h7, h8, h9, h10, h11⟩ := cx
  unfold fMax at h
  split at h
  · split at h
    · rename_i hc
      cases h
      exact va_mmax h1 h2 (h3.trans hz.symm) h4 (h5 _ hw1) (h5 _ hw2) (h5 _ hw3) (h5 _ hw4) h10 (by rw [csum_mv]; omega) h9.1 h9.2 hd k
    · cases h
  · cases h

theorem ok_min {pc index : Nat} (hw1 : Cond.methodLink own index Lib.Math.min.name ∈ GW) (hw2 : Cond.static Lib.Math.min.name ∈ GW) (hw3 : Cond.initialized "java/lang/Math" ∈ GW) (hw4 : Cond.code Lib.Math.min.name Lib.Math.min.code 2 (some .int) ∈ GW) (cx : CX p R s m args c cells slots cc nL own ad D cI cZ A) (hd : decode cc pc = .ok (.invokestatic index, 3)) : OkI p l e R s m args below meth c cells slots cc nL ad D cI cZ A pc (pS fMin 3) := by
  refine ok_pS (fun st st' h Q H locs ls hz k => ?_)
  obtain ⟨h1, h2, h3, h4, h5, h6, h7, h8, h9, h10, h11⟩ := cx
  unfold fMin at h
  split at h
  · split at h
    · rename_i hc
      cases h
      exact va_mmin h1 h2 (h3.trans hz.symm) h4 (h5 _ hw1) (h5 _ hw2) (h5 _ hw3) (h5 _ hw4) h10 (by rw [csum_mv]; omega) h9.1 h9.2 hd k
    · cases h
  · cases h
end OPS

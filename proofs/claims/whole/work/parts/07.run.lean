/-! running a table -/
def lk : Tb → Nat → Option Op
  | [], _ => none
  | (k, op) :: T, pc => match Nat.beq k pc with
    | true => some op
    | false => lk T pc
def stp (T : Tb) (q : Mu) : Option (Mu ⊕ Rs) := match lk T q.1 with
  | some op => op q
  | none => none
def run (T : Tb) : Nat → Mu → Option Rs
  | 0, _ => none
  | n + 1, q => match stp T q with
    | some (.inl q') => run T n q'
    | some (.inr r) => some r
    | none => none
noncomputable def runs (T : Tb) (q : Mu) : Option Rs := @dite (Option Rs) (∃ (n : Nat) (r : Rs), run T n q = some r) (Classical.propDecidable _) (fun h => some h.choose_spec.choose) (fun _ => none)
theorem run_mono {T : Tb} : ∀ (n k : Nat) (q : Mu) (r : Rs), run T n q = some r → run T (n + k) q = some r := by
  intro n
  induction n with
  | zero => intro k q r h; cases h
  | succ n ih =>
    intro k q r h
    rw [show n + 1 + k = (n + k) + 1 by omega]
    unfold run at h ⊢
    split at h
    · rename_i q' hq
      exact ih k q' r h
    · exact h
    · cases h
theorem run_det {T : Tb} {n n' : Nat} {q : Mu} {r r' : Rs} (h : run T n q = some r) (h' : run T n' q = some r') : r = r' := by
  have h1 := run_mono n n' q r h
  have h2 := run_mono n' n q r' h'
  rw [Nat.add_comm] at h2
  exact Option.some.inj (h1.symm.trans h2)
theorem runs_iff {T : Tb} {q : Mu} {r : Rs} : runs T q = some r ↔ ∃ n, run T n q = some r := by
  unfold runs
  constructor
  · intro h
    split at h
    · rename_i hx
      cases h
      exact ⟨hx.choose, hx.choose_spec.choose_spec⟩
    · cases h
  · rintro ⟨n, h⟩
    have hx : ∃ (n : Nat) (r : Rs), run T n q = some r := ⟨n, r, h⟩
    rw [dif_pos hx]
    exact congrArg some (run_det hx.choose_spec.choose_spec h)
theorem runs_stp {T : Tb} {q q' : Mu} (h : stp T q = some (.inl q')) : runs T q = runs T q' := by
  apply Option.ext
  intro r
  rw [runs_iff, runs_iff]
  constructor
  · rintro ⟨n, hn⟩
    cases n with
    | zero => cases hn
    | succ n =>
      unfold run at hn
      rw [h] at hn
      exact ⟨n, hn⟩
  · rintro ⟨n, hn⟩
    refine ⟨n + 1, ?_⟩
    unfold run
    rw [h]
    exact hn
theorem runs_ret {T : Tb} {q : Mu} {r : Rs} (h : stp T q = some (.inr r)) : runs T q = some r := by
  rw [runs_iff]
  refine ⟨1, ?_⟩
  unfold run
  rw [h]
def stps (T : Tb) : Nat → Mu → Option Mu
  | 0, q => some q
  | n + 1, q => match stp T q with
    | some (.inl q') => stps T n q'
    | _ => none
theorem runs_stps {T : Tb} (n : Nat) {q q' : Mu} (h : stps T n q = some q') : runs T q = runs T q' := by
  induction n generalizing q with
  | zero => cases h; rfl
  | succ n ih =>
    unfold stps at h
    split at h
    · rename_i q1 h1
      exact (runs_stp h1).trans (ih h)
    · cases h
section RUN
variable {p : Program} {l : Launch} {e : Env} {R : Room} {s : State} {m : MethodId} {args : Array Value} {below : List Frame} {meth : Method} {c : Code} {cells slots : Nat} {cc : ByteArray} {nL : Nat} {own : String} {ad : Nat → Nat} {D : va_G} {cI cZ : ClassId} {A : Nat → Prop}
def OkT (p : Program) (l : Launch) (e : Env) (R : Room) (s : State) (m : MethodId) (args : Array Value) (below : List Frame) (meth : Method) (c : Code) (cells slots : Nat) (cc : ByteArray) (nL : Nat) (ad : Nat → Nat) (D : va_G) (cI cZ : ClassId) (A : Nat → Prop) (T : Tb) : Prop := ∀ x ∈ T, OkI p l e R s m args below meth c cells slots cc nL ad D cI cZ A x.1 x.2
theorem lk_mem {T : Tb} {pc : Nat} {op : Op} (h : lk T pc = some op) : (pc, op) ∈ T := by
  induction T with
  | nil => cases h
  | cons x T ih =>
    obtain ⟨k, o⟩ := x
    unfold lk at h
    split at h
    · rename_i hb
      cases h
      cases Nat.eq_of_beq_eq_true hb
      exact List.mem_cons_self
    · exact List.mem_cons_of_mem _ (ih h)
theorem OkT.nil : OkT p l e R s m args below meth c cells slots cc nL ad D cI cZ A [] := fun _ h => absurd h List.not_mem_nil
theorem OkT.cons {pc : Nat} {op : Op} {T : Tb} (h : OkI p l e R s m args below meth c cells slots cc nL ad D cI cZ A pc op) (hT : OkT p l e R s m args below meth c cells slots cc nL ad D cI cZ A T) : OkT p l e R s m args below meth c cells slots cc nL ad D cI cZ A ((pc, op) :: T) := fun x hx => (List.mem_cons.mp hx).elim (fun q => by rw [q]; exact h) (hT x)
theorem run_sound {T : Tb} {Q : State → Prop} (hT : OkT p l e R s m args below meth c cells slots cc nL ad D cI cZ A T) : ∀ (n : Nat) (q : Mu) (r : Rs), run T n q = some r → (∀ (pc : Nat) (L : List Value), RetAt meth cc pc r.1 → At p l e R s m args below meth c cells slots nL ad D cI cZ A Q (pc, L, r.1.toList, r.2)) → At p l e R s m args below meth c cells slots nL ad D cI cZ A Q q := by
  intro n
  induction n with
  | zero => intro q r h; cases h
  | succ n ih =>
    intro q r h hret
    obtain ⟨pc, L, st, w⟩ := q
    unfold run at h
    unfold stp at h
    dsimp only at h
    cases hl : lk T pc with
    | none => rw [hl] at h; cases h
    | some op =>
      rw [hl] at h
      dsimp only at h
      have ho := hT _ (lk_mem hl) L st w
      dsimp only at ho
      cases hop : op (pc, L, st, w) with
      | none => rw [hop] at h; cases h
      | some y =>
        rw [hop] at h
        have h1 := ho y hop
        cases y with
        | inl q' => exact h1 Q (ih q' r h hret)
        | inr r' =>
          cases h
          obtain ⟨h2, h3, h4⟩ := h1
          rw [h3, ← h2]
          exact hret pc L h4
end RUN
/-! the locals at a method's entry -/
def ent0 : List Value → List Value
  | [] => []
  | v :: t => if v.category = 2 then v :: .null :: ent0 t else v :: ent0 t
def ent (as : List Value) (nL : Nat) : List Value := ent0 as ++ List.replicate (nL - (ent0 as).length) .null
theorem ent0_len (ad : Nat → Nat) (as : List Value) : (lg_sl (as.map (mv ad))).length = (ent0 as).length := by
  induction as with
  | nil => rfl
  | cons v t ih =>
    unfold ent0
    rw [List.map_cons]
    have e : lg_sl (mv ad v :: t.map (mv ad)) = (if (mv ad v).category = 2 then [Slot.val (mv ad v), .second] else [.val (mv ad v)]) ++ lg_sl (t.map (mv ad)) := rfl
    rw [e, mv_cat]
    split <;> simp [ih]
theorem ent0_at (ad : Nat → Nat) (as : List Value) : ∀ (b i : Nat) (v : Value), (ent0 as)[i]? = some v → v ≠ .null → (b + i, mv ad v) ∈ lv_args b (as.map (mv ad)) := by
  induction as with
  | nil => intro b i v h; simp [ent0] at h
  | cons u t ih =>
    intro b i v h hn
    rw [List.map_cons]
    unfold lv_args
    rw [mv_cat]
    unfold ent0 at h
    split at h
    · rename_i hc
      match i, h with
      | 0, h => simp at h; rw [h]; exact List.mem_cons_self
      | 1, h => simp at h; exact absurd h.symm hn
      | i + 2, h =>
        refine List.mem_cons_of_mem _ ?_
        rw [if_pos hc, show b + (i + 2) = b + 2 + i by omega]
        exact ih (b + 2) i v (by simpa using h) hn
    · rename_i hc
      match i, h with
      | 0, h => simp at h; rw [h]; exact List.mem_cons_self
      | i + 1, h =>
        refine List.mem_cons_of_mem _ ?_
        rw [if_neg hc, show b + (i + 1) = b + 1 + i by omega]
        exact ih (b + 1) i v (by simpa using h) hn
theorem ent_LR {ad : Nat → Nat} {as : List Value} {nL : Nat} (h : (ent0 as).length ≤ nL) : LR ad ((lg_sl (as.map (mv ad)) ++ List.replicate (nL - (lg_sl (as.map (mv ad))).length) Slot.unset).toArray) nL (ent as nL) := by
  have hh := lv_entry (as.map (mv ad)) (n := nL) (by rw [ent0_len]; exact h)
  refine LR.of hh (by simp [ent]; omega) (fun i v hi hn => ?_)
  unfold ent at hi
  rw [List.getElem?_append] at hi
  split at hi
  · have := ent0_at ad as 0 i v hi hn
    rwa [Nat.zero_add] at this
  · rw [List.getElem?_replicate] at hi
    split at hi
    · cases hi; exact absurd rfl hn
    · cases hi
/-! the meaning of a method, by depth of calls -/
noncomputable def semF (TS : List (Ex → Tb)) (MS : List Mi) : Nat → Ex
  | 0 => fun _ _ _ => none
  | d + 1 => fun k as w => match TS[k]?, MS[k]? with
    | some T, some mi => match Nat.ble (ent0 as).length mi.2.2.1 with
      | true => runs (T (semF TS MS d)) (0, ent as mi.2.2.1, [], w)
      | false => none
    | _, _ => none
/-- a method's table is right, whatever its callees are, if they keep their contracts -/
def TabOk (MS : List Mi) (T : Ex → Tb) (mi : Mi) : Prop := plainName mi.1.cls = true ∧ ∀ (l : Launch) (d : Nat) (ex : Ex), ExOk l MS d ex → ∀ (p : Program) (e : Env) (R : Room) (s : State) (m : MethodId) (args : Array Value) (below : List Frame) (meth : Method) (c : Code) (cells slots : Nat) (ad : Nat → Nat) (D : va_G) (cI cZ : ClassId) (A : Nat → Prop), CX p R s m args c cells slots mi.2.1 mi.2.2.1 mi.1.cls ad D cI cZ A → d + 1 ≤ R.frames ∧ 64 * d + 104 ≤ R.locals → (∀ q, s.heap.size ≤ q → A q) → meth.sig.returnType = mi.2.2.2 → OkT p l e R s m args below meth c cells slots mi.2.1 mi.2.2.1 ad D cI cZ A (T ex)
theorem Aw_all {ad : Nat → Nat} {sz : Nat} : ∀ q, sz ≤ q → Aw ad sz q := fun _ h => Or.inr h
theorem sound {TS : List (Ex → Tb)} {MS : List Mi} (hall : ∀ (k : Nat) (T : Ex → Tb) (mi : Mi), TS[k]? = some T → MS[k]? = some mi → TabOk MS T mi) (l : Launch) : ∀ d : Nat, ExOk l MS d (semF TS MS d) := by
  intro d
  induction d with
  | zero => intro k as w rv w' h; cases h
  | succ d ih =>
    intro k as w rv w' h
    unfold semF at h
    split at h
    · rename_i T mi hT hmi
      split at h
      · rename_i hb
        refine ⟨mi, hmi, ?_⟩
        intro ad D cI cZ sz hj
        have hok := hall k T mi hT hmi
        obtain ⟨n, hn⟩ := runs_iff.mp h
        refine Met.ofW (cc := mi.2.1) (maxL := mi.2.2.1) (ret := mi.2.2.2) hok.1 rfl ?_
        intro p e s m args below meth c s₁ B hml hv
        obtain ⟨rfl, hsz, hP, hK, hE⟩ := hv
        have hts := atoms_spec (ws := wsM mi) B.pre
        subst hsz
        have cx : CX p (headSpec (wsM mi) (rmd (d + 1))).room s m (as.map (mv ad)).toArray c 0 0 mi.2.1 mi.2.2.1 mi.1.cls ad D cI cZ (Aw ad s.heap.size) :=
          ⟨B.exec, B.bytes, hml, findClass_of_methodNamed B.named, fun w hw => hts w (List.mem_cons_of_mem _ hw), hK, ⟨hj, fun k hk => Or.inl ⟨k, hk, rfl⟩⟩, hE, ⟨Nat.zero_le _, Nat.zero_le _⟩, Nat.succ_le_succ (Nat.zero_le d), (by show 40 ≤ 64 * (d + 1) + 40; omega)⟩
        have hT := hok.2 l d (semF TS MS d) ih p e (headSpec (wsM mi) (rmd (d + 1))).room s m (as.map (mv ad)).toArray below meth c 0 0 ad D cI cZ (Aw ad s.heap.size) cx ⟨Nat.le_refl _, (by show 64 * d + 104 ≤ 64 * (d + 1) + 40; omega)⟩ Aw_all B.returns
        rw [lg_entry_eq]
        refine run_sound hT n _ _ hn ?_ s.heap [] _ hP va_S.rf (ent_LR (Nat.le_of_ble_eq_true hb))
        intro pc L hr H locs ls hP1 hS1 hl1
        have post : ∀ t : State, t.heap = H → PostM ad D cI cZ s.heap.size rv w' (as.map (mv ad)).toArray s (.returned (rv.map (mv ad))) t := fun t ht => ⟨rfl, by rw [ht]; exact hP1, hS1.F ht⟩
        have hlocks := B.notSynchronized
        rcases hr with ⟨v, ty, h1, h2, h3, h4⟩ | ⟨v, h1, h2, h3⟩ | ⟨h1, h2, h3⟩
        · dsimp only at h1
          subst h1
          exact W.zret (ty := ty) B.exec B.bytes h3 h4 (fun t ht _ => post t ht) hS1.2.2 h2
        · dsimp only at h1
          subst h1
          exact W.lret B.exec B.bytes h3 (fun t ht _ => post t ht) hS1.2.2 h2
        · dsimp only at h1
          subst h1
          exact W.vret B.exec B.bytes h3 (fun t ht _ => post t ht) hS1.2.2 h2
      · cases h
    · cases h

/-! calls: a contract for each answer of a method, the ops of calls -/
abbrev Mi : Type := MethodName × ByteArray × Nat × Option FieldType
def rmd (d : Nat) : Room := { frames := d, cells := 0, slots := 0, locals := 64 * d + 40 }
def Aw (ad : Nat → Nat) (sz : Nat) : Nat → Prop := fun q => (∃ k : Nat, k < 53 ∧ q = ad k) ∨ sz ≤ q
def PreM (ad : Nat → Nat) (D : va_G) (cI cZ : ClassId) (sz : Nat) (as : List Value) (w : Wd) : Array Value → State → Prop := va_Pc (as.map (mv ad)) (fun U => U.heap.size = sz ∧ va_P D vwCl (wld ad cI cZ w) U.heap ∧ va_K D vwCl (tyL cI cZ) U ∧ EN ad (Aw ad sz) U)
def PostM (ad : Nat → Nat) (D : va_G) (cI cZ : ClassId) (sz : Nat) (rv : Option Value) (w' : Wd) : Array Value → State → Outcome → State → Prop := fun _ st o t => o = .returned (rv.map (mv ad)) ∧ va_P D vwCl (wld ad cI cZ w') t.heap ∧ va_F (Aw ad sz) st t
def wsM (mi : Mi) : List Cond := .code mi.1 mi.2.1 mi.2.2.1 mi.2.2.2 :: GW
def MC (l : Launch) (mi : Mi) (d : Nat) (as : List Value) (w : Wd) (rv : Option Value) (w' : Wd) : Prop := ∀ (ad : Nat → Nat) (D : va_G) (cI cZ : ClassId) (sz : Nat), (∀ i j : Nat, i < 53 → j < 53 → ad i = ad j → i = j) → Met l mi.1 (wsM mi) (rmd d) (PreM ad D cI cZ sz as w) (PostM ad D cI cZ sz rv w') 0 0 (Aw ad sz)
theorem EN.same {ad : Nat → Nat} {A : Nat → Prop} {u U : State} (hv : U.vm = u.vm) (hh : U.heap = u.heap) (h : EN ad A u) : EN ad A U := by
  have hal : u.vm.Alike U.vm := by rw [hv]; exact Vm.Alike.refl _
  obtain ⟨h1, h2, h3, h4, h5⟩ := h
  refine ⟨by rw [hh]; exact h1.moved hal, fun i hi => vk_R.same hv (h2 i hi), by rw [hh]; exact h3.moved hal, by rw [hh]; exact h4.moved hal, fun q hq => va_tabs rfl hv.symm (h5 q hq)⟩
theorem EN.warm {ad : Nat → Nat} {A B : Nat → Prop} {s U : State} {H : Heap} {locs : List Loc} (hW : s.WarmedH U.vm) (hS : va_S A s.heap H locs) (hH : U.heap = H) (hAB : ∀ q, B q → A q) (h : EN ad A s) : EN ad B U := by
  have hal : s.vm.Alike U.vm := hW.alike
  obtain ⟨h1, h2, h3, h4, h5⟩ := h
  refine ⟨by rw [hH]; exact ((h1.moved hal).kept hS.2.1).narrow hAB, fun i hi => vk_R.warm hW (h2 i hi), by rw [hH]; exact ((h3.moved hal).kept hS.2.1).narrow hAB, by rw [hH]; exact ((h4.moved hal).kept hS.2.1).narrow hAB, fun q hq => va_Nw.warmM hW (h5 q hq)⟩
theorem GW_good {w : Cond} (h : w ∈ GW) : w ∈ GW ∧ ((w.onTables && w.keeps) = true ∨ ∃ ty, w = .arrayClass ty) := ⟨h, good_of_word (List.mem_filter.mp h).2⟩
theorem GW_all {mi : Mi} (h : Cond.code mi.1 mi.2.1 mi.2.2.1 mi.2.2.2 ∈ GW) : GoodIn GW (wsM mi) := by
  intro w hw
  rcases List.mem_cons.mp hw with rfl | hw
  · exact GW_good h
  · exact GW_good hw
theorem PreM.blind {ad : Nat → Nat} {D : va_G} {cI cZ : ClassId} {sz : Nat} {as : List Value} {w : Wd} : FrameBlind (PreM ad D cI cZ sz as w) := by
  intro a U g mk h
  obtain ⟨h0, h1, h2, h3, h4⟩ := h
  exact ⟨h0, h1, h2, va_K.moved (u := U) (U := U.calling g mk a) (Vm.Alike.refl U.vm) h3, EN.same (u := U) (U := U.calling g mk a) rfl rfl h4⟩
def CalV (own : String) (idx : Nat) (mi : Mi) (n : Nat) (C : String) : Prop := Cond.methodLink own idx mi.1 ∈ GW ∧ Cond.instanceMethod mi.1 ∈ GW ∧ Cond.selects C mi.1 mi.1 ∈ GW ∧ Cond.initialized C ∈ GW ∧ Cond.code mi.1 mi.2.1 mi.2.2.1 mi.2.2.2 ∈ GW ∧ (mi.1.cls = C ∧ mi.1.cls ≠ "java/lang/invoke/MethodHandle" ∧ mi.1.cls ≠ "java/lang/invoke/VarHandle" ∧ (parseMethodDescriptor mi.1.desc).map (fun d => d.parameters.length) = some n) ∧ mi.2.2.1 ≤ 45
def CalS (own : String) (idx : Nat) (mi : Mi) (n : Nat) : Prop := Cond.methodLink own idx mi.1 ∈ GW ∧ Cond.static mi.1 ∈ GW ∧ Cond.initialized mi.1.cls ∈ GW ∧ Cond.code mi.1 mi.2.1 mi.2.2.1 mi.2.2.2 ∈ GW ∧ (mi.1.cls ≠ "java/lang/invoke/MethodHandle" ∧ mi.1.cls ≠ "java/lang/invoke/VarHandle" ∧ (parseMethodDescriptor mi.1.desc).map (fun d => d.parameters.length) = some n) ∧ mi.2.2.1 ≤ 45
def CalN (own : String) (idx : Nat) (mi : Mi) (n : Nat) : Prop := (own, idx, mi.1) ∈ NWl ∧ Cond.static mi.1 ∈ GW ∧ Cond.initialized mi.1.cls ∈ GW ∧ Cond.code mi.1 mi.2.1 mi.2.2.1 mi.2.2.2 ∈ GW ∧ (mi.1.cls ≠ "java/lang/invoke/MethodHandle" ∧ mi.1.cls ≠ "java/lang/invoke/VarHandle" ∧ (parseMethodDescriptor mi.1.desc).map (fun d => d.parameters.length) = some n) ∧ mi.2.2.1 ≤ 45
/-- every answer of ex is a contract at depth d -/
def ExOk (l : Launch) (MIS : List Mi) (d : Nat) (ex : Ex) : Prop := ∀ (k : Nat) (as : List Value) (w : Wd) (rv : Option Value) (w' : Wd), ex k as w = some (rv, w') → ∃ mi : Mi, MIS[k]? = some mi ∧ MC l mi d as w rv w'
def oCallV (ex : Ex) (k n ci : Nat) : Op := fun q => match q.2.2.1.drop n with
  | .ref b :: rest => match Nat.beq (clsOf b) ci && Nat.ble (csum rest) 8 with
    | true => match ex k (.ref b :: (q.2.2.1.take n).reverse) q.2.2.2 with
      | some (rv, w') => some (.inl (q.1 + 3, q.2.1, rv.toList ++ rest, w'))
      | none => none
    | false => none
  | _ => none
def oCallT (ex : Ex) (k n : Nat) : Op := fun q => match q.2.2.1.drop n with
  | .ref b :: rest => match (Nat.ble 100 b && Nat.blt b 106) && Nat.ble (csum rest) 8 with
    | true => match ex k (.ref b :: (q.2.2.1.take n).reverse) q.2.2.2 with
      | some (rv, w') => some (.inl (q.1 + 3, q.2.1, rv.toList ++ rest, w'))
      | none => none
    | false => none
  | _ => none
def oCallS (ex : Ex) (k n : Nat) : Op := fun q => match Nat.ble n q.2.2.1.length && Nat.ble (csum (q.2.2.1.drop n)) 8 with
  | true => match ex k (q.2.2.1.take n).reverse q.2.2.2 with
    | some (rv, w') => some (.inl (q.1 + 3, q.2.1, rv.toList ++ q.2.2.1.drop n, w'))
    | none => none
  | false => none
theorem hund3 {a : Nat} (h : 100 ≤ a) (h2 : a < 106) : a - 100 < 6 := by omega
theorem stk_eq {ad : Nat → Nat} {st t r : List Value} (h : st = t ++ r) : st.map (mv ad) = (t.reverse.map (mv ad)).reverse ++ r.map (mv ad) := by
  rw [List.map_reverse, List.reverse_reverse, ← List.map_append, ← h]
section CALLS
variable {p : Program} {l : Launch} {e : Env} {R : Room} {s : State} {m : MethodId} {args : Array Value} {below : List Frame} {meth : Method} {c : Code} {cells slots : Nat} {cc : ByteArray} {nL : Nat} {own : String} {ad : Nat → Nat} {D : va_G} {cI cZ : ClassId} {A : Nat → Prop}
theorem W_call {H : Heap} {locs : List Loc} {Q : State → Prop} {pc : Nat} {ls : Array Slot} {st0 rest : List Value} {a : Array Value} {rv : Option Value} {w' : Wd} (hr : va_Run p l e R s m args below meth c H locs cells slots 0 0 (F0 m pc ls st0) rest (PostM ad D cI cZ H.size rv w' a) (Aw ad H.size)) (hS : va_S A s.heap H locs) (hA : ∀ q, Aw ad H.size q → A q)
    (kk : ∀ (H1 : Heap) (locs1 : List Loc), va_P D vwCl (wld ad cI cZ w') H1 → va_S A s.heap H1 locs1 → W p l e R s m args below meth c H1 locs1 cells slots Q (F0 m (pc + 3) ls ((rv.map (mv ad)).toList ++ rest))) : W p l e R s m args below meth c H locs cells slots Q (F0 m pc ls st0) := by
  intro T hT X
  obtain ⟨v, st₀, t, T', L, h0, X', hL, e1, e2, ⟨hv, hb, hz, hk⟩, st⟩ := hr T hT X
  cases hv
  rw [h0] at hz hk
  obtain ⟨t2, a1, b1⟩ := kk T'.heap (locs ++ L) (by rw [e1]; exact hb)
    ⟨Nat.le_trans hS.1 (by rw [e1]; exact hz), fun q h1 h2 => by rw [e1, hk q (Nat.lt_of_lt_of_le h1 hS.1) (fun z => h2 (hA q z))]; exact hS.2.1 q h1 h2, fun q hq => by
      rcases List.mem_append.mp hq with h | h
      · exact hS.2.2 q h
      · exact hA _ (hL q h)⟩ T' rfl X'
  exact ⟨t2, st t2 a1, b1⟩
theorem Aw_sub (hj : DJ ad A) (hA : ∀ q, s.heap.size ≤ q → A q) {H : Heap} {locs : List Loc} (hS : va_S A s.heap H locs) : ∀ q, Aw ad H.size q → A q := by
  intro q h
  rcases h with ⟨k, h1, rfl⟩ | h
  · exact hj.2 k h1
  · exact hA q (Nat.le_trans hS.1 h)
theorem map_ret (rv : Option Value) (rest : List Value) : (rv.toList ++ rest).map (mv ad) = (rv.map (mv ad)).toList ++ rest.map (mv ad) := by
  cases rv <;> simp
theorem rmd_fit {d : Nat} {mi : Mi} (hR : d + 1 ≤ R.frames ∧ 64 * d + 104 ≤ R.locals) (hm : mi.2.2.1 ≤ 45) : (rmd d).frames + 1 ≤ R.frames ∧ 8 + (mi.2.2.1 + 11) + (rmd d).locals ≤ R.locals := by
  refine ⟨hR.1, ?_⟩
  show 8 + (mi.2.2.1 + 11) + (64 * d + 40) ≤ R.locals
  omega
theorem pre_of (cx : CX p R s m args c cells slots cc nL own ad D cI cZ A) (hA : ∀ q, s.heap.size ≤ q → A q) {H : Heap} {locs : List Loc} {w : Wd} (hP : va_P D vwCl (wld ad cI cZ w) H) (hS : va_S A s.heap H locs) (as : List Value) : ∀ U : State, U.heap = H → s.WarmedH U.vm → PreM ad D cI cZ H.size as w (as.map (mv ad)).toArray U := by
  intro U hU hW
  obtain ⟨h1, h2, h3, h4, h5, h6, h7, h8, h9, h10, h11⟩ := cx
  exact ⟨rfl, by rw [hU], by rw [hU]; exact hP, va_K.moved hW.alike h6, EN.warm hW hS hU (Aw_sub h7 hA hS) h8⟩
theorem ok_callV {MIS : List Mi} {d : Nat} {ex : Ex} (hex : ExOk l MIS d ex) {pc idx k n ci : Nat} {mi : Mi} {C : String} {T : u_T} {N : Nat} (hmi : MIS[k]? = some mi) (hcl : vwCl[ci]? = some (C, T, N)) (hci : ci < 50) (hw : CalV own idx mi n C) (hR : d + 1 ≤ R.frames ∧ 64 * d + 104 ≤ R.locals) (hA : ∀ q, s.heap.size ≤ q → A q)
    (cx : CX p R s m args c cells slots cc nL own ad D cI cZ A) (hd : decode cc pc = .ok (.invokevirtual idx, 3)) : OkI p l e R s m args below meth c cells slots cc nL ad D cI cZ A pc (oCallV ex k n ci) := by
  intro L st w r h
  unfold oCallV at h
  dsimp only at h
  split at h
  · rename_i _ b rest hdrop
    split at h
    · rename_i hb
      rw [Bool.and_eq_true, Nat.ble_eq] at hb
      have hb1 : clsOf b = ci := Nat.eq_of_beq_eq_true hb.1
      split at h
      · rename_i _ rv w' hexk
        cases h
        intro Q kk H locs ls hP hS hl
        obtain ⟨mi2, hmi2, hM⟩ := hex _ _ _ _ _ hexk
        cases hmi.symm.trans hmi2
        have hlen : (st.take n).length = n := by
          have := congrArg List.length hdrop
          simp at this ⊢
          omega
        have hst : st = st.take n ++ .ref b :: rest := by rw [← hdrop, List.take_append_drop]
        have hpre := pre_of cx hA hP hS (.ref b :: (st.take n).reverse)
        obtain ⟨h1, h2, h3, h4, h5, h6, h7, h8, h9, h10, h11⟩ := cx
        obtain ⟨g1, g2, g3, g4, g5, g6, g7⟩ := hw
        have hG : GoodIn GW (wsV own idx C mi.1 (wsM mi)) := by
          intro v hv
          unfold wsV at hv
          rcases List.mem_append.mp hv with hv | hv
          · simp only [List.mem_cons, List.not_mem_nil, or_false] at hv
            rcases hv with rfl | rfl | rfl | rfl
            · exact GW_good g1
            · exact GW_good g2
            · exact GW_good g3
            · exact GW_good g4
          · exact GW_all g5 v hv
        have hrun := va_runV (p := p) (l := l) (e := e) (R := R) (below := below) (meth := meth) (H := H) (locs := locs) (cells := cells) (slots := slots) (g := F0 m pc ls (st.map (mv ad))) (rest := rest.map (mv ad)) (As := (st.take n).reverse.map (mv ad)) (b := ad b) ⟨h1, h2, h3, h4, h5⟩ (hM ad D cI cZ H.size h7.1)
          (cwV n h5 hG rfl rfl rfl g6 (rmd_fit hR g7)) ⟨PreM.blind, va_recv h6 hP hcl (cell_obj hb1 hci), hpre⟩ rfl (by rw [List.length_map, List.length_reverse]; exact hlen) hl.2.1 (stk_eq (r := Value.ref b :: rest) hst) (lv_room (by rw [csum_mv]; exact hb.2)) hd ⟨h9.1, h9.2⟩
        refine W_call hrun hS (Aw_sub h7 hA hS) (fun H1 locs1 hP1 hS1 => ?_)
        rw [← map_ret]
        exact kk H1 locs1 ls hP1 hS1 hl
      · cases h
    · cases h
  · cases h
theorem ok_callT {MIS : List Mi} {d : Nat} {ex : Ex} (hex : ExOk l MIS d ex) {pc idx k n : Nat} {mi : Mi} (hmi : MIS[k]? = some mi) (hw : CalV own idx mi n "java/lang/String") (hR : d + 1 ≤ R.frames ∧ 64 * d + 104 ≤ R.locals) (hA : ∀ q, s.heap.size ≤ q → A q)
    (cx : CX p R s m args c cells slots cc nL own ad D cI cZ A) (hd : decode cc pc = .ok (.invokevirtual idx, 3)) : OkI p l e R s m args below meth c cells slots cc nL ad D cI cZ A pc (oCallT ex k n) := by
  intro L st w r h
  unfold oCallT at h
  dsimp only at h
  split at h
  · rename_i _ b rest hdrop
    split at h
    · rename_i hb
      rw [Bool.and_eq_true, Bool.and_eq_true, Nat.ble_eq, Nat.ble_eq, Nat.blt_eq] at hb
      split at h
      · rename_i _ rv w' hexk
        cases h
        intro Q kk H locs ls hP hS hl
        obtain ⟨mi2, hmi2, hM⟩ := hex _ _ _ _ _ hexk
        cases hmi.symm.trans hmi2
        have hlen : (st.take n).length = n := by
          have := congrArg List.length hdrop
          simp at this ⊢
          omega
        have hst : st = st.take n ++ .ref b :: rest := by rw [← hdrop, List.take_append_drop]
        have hpre := pre_of cx hA hP hS (.ref b :: (st.take n).reverse)
        obtain ⟨h1, h2, h3, h4, h5, h6, h7, h8, h9, h10, h11⟩ := cx
        obtain ⟨g1, g2, g3, g4, g5, g6, g7⟩ := hw
        have hG : GoodIn GW (wsV own idx "java/lang/String" mi.1 (wsM mi)) := by
          intro v hv
          unfold wsV at hv
          rcases List.mem_append.mp hv with hv | hv
          · simp only [List.mem_cons, List.not_mem_nil, or_false] at hv
            rcases hv with rfl | rfl | rfl | rfl
            · exact GW_good g1
            · exact GW_good g2
            · exact GW_good g3
            · exact GW_good g4
          · exact GW_all g5 v hv
        have hrec := vk_recv h8.1 (hund3 hb.1.1 hb.1.2) hS
        rw [Nat.add_sub_of_le hb.1.1] at hrec
        have hrun := va_runV (p := p) (l := l) (e := e) (R := R) (below := below) (meth := meth) (H := H) (locs := locs) (cells := cells) (slots := slots) (g := F0 m pc ls (st.map (mv ad))) (rest := rest.map (mv ad)) (As := (st.take n).reverse.map (mv ad)) (b := ad b) ⟨h1, h2, h3, h4, h5⟩ (hM ad D cI cZ H.size h7.1)
          (cwV n h5 hG rfl rfl rfl g6 (rmd_fit hR g7)) ⟨PreM.blind, hrec, hpre⟩ rfl (by rw [List.length_map, List.length_reverse]; exact hlen) hl.2.1 (stk_eq (r := Value.ref b :: rest) hst) (lv_room (by rw [csum_mv]; exact hb.2)) hd ⟨h9.1, h9.2⟩
        refine W_call hrun hS (Aw_sub h7 hA hS) (fun H1 locs1 hP1 hS1 => ?_)
        rw [← map_ret]
        exact kk H1 locs1 ls hP1 hS1 hl
      · cases h
    · cases h
  · cases h
theorem ok_callS {MIS : List Mi} {d : Nat} {ex : Ex} (hex : ExOk l MIS d ex) {pc idx k n : Nat} {mi : Mi} (hmi : MIS[k]? = some mi) (hw : CalS own idx mi n) (hR : d + 1 ≤ R.frames ∧ 64 * d + 104 ≤ R.locals) (hA : ∀ q, s.heap.size ≤ q → A q)
    (cx : CX p R s m args c cells slots cc nL own ad D cI cZ A) (hd : decode cc pc = .ok (.invokestatic idx, 3)) : OkI p l e R s m args below meth c cells slots cc nL ad D cI cZ A pc (oCallS ex k n) := by
  intro L st w r h
  unfold oCallS at h
  dsimp only at h
  split at h
  · rename_i hb
    rw [Bool.and_eq_true, Nat.ble_eq, Nat.ble_eq] at hb
    split at h
    · rename_i _ rv w' hexk
      cases h
      intro Q kk H locs ls hP hS hl
      obtain ⟨mi2, hmi2, hM⟩ := hex _ _ _ _ _ hexk
      cases hmi.symm.trans hmi2
      have hlen : (st.take n).length = n := by simp; omega
      have hst : st = st.take n ++ st.drop n := by rw [List.take_append_drop]
      have hpre := pre_of cx hA hP hS (st.take n).reverse
      obtain ⟨h1, h2, h3, h4, h5, h6, h7, h8, h9, h10, h11⟩ := cx
      obtain ⟨g1, g2, g3, g5, g6, g7⟩ := hw
      have hG : GoodIn GW (va_wsS own idx mi.1 (wsM mi)) := by
        intro v hv
        unfold va_wsS at hv
        rcases List.mem_append.mp hv with hv | hv
        · simp only [List.mem_cons, List.not_mem_nil, or_false] at hv
          rcases hv with rfl | rfl | rfl
          · exact GW_good g1
          · exact GW_good g2
          · exact GW_good g3
        · exact GW_all g5 v hv
      have hrun := va_runS (p := p) (l := l) (e := e) (R := R) (below := below) (meth := meth) (H := H) (locs := locs) (cells := cells) (slots := slots) (g := F0 m pc ls (st.map (mv ad))) (rest := (st.drop n).map (mv ad)) (As := (st.take n).reverse.map (mv ad)) ⟨h1, h2, h3, h4, h5⟩ (hM ad D cI cZ H.size h7.1)
        (va_cwS n h5 hG rfl rfl rfl g6 (rmd_fit hR g7)) ⟨PreM.blind, hpre⟩ rfl (by rw [List.length_map, List.length_reverse]; exact hlen) hl.2.1 (stk_eq hst) (lv_room (by rw [csum_mv]; exact hb.2)) hd ⟨h9.1, h9.2⟩
      refine W_call hrun hS (Aw_sub h7 hA hS) (fun H1 locs1 hP1 hS1 => ?_)
      rw [← map_ret]
      exact kk H1 locs1 ls hP1 hS1 hl
    · cases h
  · cases h
theorem ok_callN {MIS : List Mi} {d : Nat} {ex : Ex} (hex : ExOk l MIS d ex) {pc idx k n : Nat} {mi : Mi} (hmi : MIS[k]? = some mi) (hw : CalN own idx mi n) (hR : d + 1 ≤ R.frames ∧ 64 * d + 104 ≤ R.locals) (hA : ∀ q, s.heap.size ≤ q → A q)
    (cx : CX p R s m args c cells slots cc nL own ad D cI cZ A) (hd : decode cc pc = .ok (.invokestatic idx, 3)) : OkI p l e R s m args below meth c cells slots cc nL ad D cI cZ A pc (oCallS ex k n) := by
  intro L st w r h
  unfold oCallS at h
  dsimp only at h
  split at h
  · rename_i hb
    rw [Bool.and_eq_true, Nat.ble_eq, Nat.ble_eq] at hb
    split at h
    · rename_i _ rv w' hexk
      cases h
      intro Q kk H locs ls hP hS hl
      obtain ⟨mi2, hmi2, hM⟩ := hex _ _ _ _ _ hexk
      cases hmi.symm.trans hmi2
      have hlen : (st.take n).length = n := by simp; omega
      have hst : st = st.take n ++ st.drop n := by rw [List.take_append_drop]
      have hpre := pre_of cx hA hP hS (st.take n).reverse
      obtain ⟨h1, h2, h3, h4, h5, h6, h7, h8, h9, h10, h11⟩ := cx
      obtain ⟨g1, g2, g3, g5, g6, g7⟩ := hw
      have hrun := va_runSN (p := p) (l := l) (e := e) (R := R) (below := below) (meth := meth) (H := H) (locs := locs) (cells := cells) (slots := slots) (g := F0 m pc ls (st.map (mv ad))) (rest := (st.drop n).map (mv ad)) (As := (st.take n).reverse.map (mv ad)) ⟨h1, h2, h3, h4, h5⟩ (hM ad D cI cZ H.size h7.1)
        ⟨va_cnB n h5 (GW_all g5) rfl rfl rfl (h8.2.2.2.2 _ g1) (h5 _ g3) g6 (rmd_fit hR g7), h5 _ g2, trivial⟩ ⟨PreM.blind, hpre⟩ rfl (by rw [List.length_map, List.length_reverse]; exact hlen) hl.2.1 (stk_eq hst) (lv_room (by rw [csum_mv]; exact hb.2)) hd ⟨h9.1, h9.2⟩
      refine W_call hrun hS (Aw_sub h7 hA hS) (fun H1 locs1 hP1 hS1 => ?_)
      rw [← map_ret]
      exact kk H1 locs1 ls hP1 hS1 hl
    · cases h
  · cases h
end CALLS

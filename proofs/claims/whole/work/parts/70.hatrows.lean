/-! the hat's rows: both sides go through the same list -/
/-- the row of the reference's number; none: it is no row's number -/
def dm : Nat → Nat → Option (List Nat)
  | 0, y => if y = 0 then some [] else none
  | n + 1, y => if y = 0 then some [] else if y % 6 = 0 then none else (dm n (y / 6)).map (fun r => (y % 6 - 1) :: r)
theorem hat_rows : (List.range 216).filterMap (dm 5) = (List.range 156).map (dx 5) := by decide +kernel
theorem foN_list {α : Type} (step : α → Nat → α) (a : α) : ∀ n, foN step a n = (List.range n).foldl step a := by
  intro n
  induction n with
  | zero => rfl
  | succ n ih =>
    rw [List.range_succ, List.foldl_append, ← ih]
    rfl
theorem foldl_fm {α : Type} (f : α → List Nat → α) (g : Nat → Option (List Nat)) : ∀ (l : List Nat) (a : α), l.foldl (fun a y => match g y with
    | some r => f a r
    | none => a) a = (l.filterMap g).foldl f a := by
  intro l
  induction l with
  | nil => intro a; rfl
  | cons y l ih =>
    intro a
    rw [List.foldl_cons, List.filterMap_cons]
    cases hg : g y with
    | none => exact ih a
    | some r => exact ih (f a r)
/-- steps over the reference's numbers come to the same as over the class's -/
theorem hat_fold {α : Type} (f : α → List Nat → α) (a : α) : foN (fun a y => match dm 5 y with
    | some r => f a r
    | none => a) a 216 = foN (fun a x => f a (dx 5 x)) a 156 := by
  rw [foN_list, foN_list, foldl_fm f (dm 5), hat_rows, List.foldl_map]

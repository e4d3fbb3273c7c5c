/-! Out of whole's part 19.ops1, by wip/p46/extract.py. -/
/-- the k-th of a list, or -4 -/
def nthE (l : List Nat) (k : Nat) : Int32 := match l[k]? with
  | some x => nI x
  | none => -4

/-! Out of whole's part 71.told, by wip/p46/extract.py. -/
def by8 (x : Int32) : Int32 := x.toInt8.toInt32.toInt8.toInt32
def KK (z : Nat) : Nat := if z < 10 then 0 else if z < 100 then 1 else if z < 1000 then 2 else if z < 10000 then 3 else if z < 100000 then 4 else if z < 1000000 then 5 else 6
def dg (K z m : Nat) : List Int32 := (List.range m).map (fun j => by8 (nI (48 + z / 10 ^ (K - j) % 10)))
def az (x : Int32) : Nat := x.toInt.natAbs
def nm (x : Int32) : List Int32 := [by8 (nI 32)] ++ (if 0 ≤ x then [] else [by8 (nI 45)]) ++ dg (KK (az x)) (az x) (KK (az x) + 1)
def t4 : List Int32 := [by8 (nI 116), by8 (nI 111), by8 (nI 108), by8 (nI 100)]
def hd (s n r : Nat) : List Int32 := t4 ++ nm (nI s) ++ nm (nI n) ++ nm (nI r)

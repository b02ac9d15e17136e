/-! static arrays, the images row: the words of the texts wp -/
def st_STEP : Nat → Int32 := fun k => match k with
  | 0 => -18
  | 1 => 1
  | 2 => 18
  | _ => -1
def st_TOUCH : Nat → Int32 := fun k => match k with
  | 0 => -19
  | 1 => -18
  | 2 => -2
  | 3 => -1
  | 4 => 0
  | 5 => 1
  | 6 => 17
  | _ => 18
def im3 (a b c : Nat) : Nat → Option Nat := fun k => match k with
  | 0 => some a
  | 1 => some b
  | 2 => some c
  | _ => none

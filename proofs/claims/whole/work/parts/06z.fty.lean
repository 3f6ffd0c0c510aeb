/-- which fields of a class are ints -/
def fty : Nat → List Bool := fun c => match c with
  | 0 => [true, true]
  | 1 => [true, true]
  | 2 => [true, true]
  | 3 => [true, true]
  | 4 => [true, true]
  | 5 => [false, false, false, false, false, true, true, true, true, true, true]
  | 6 => [true, true]
  | 7 => [true, false]
  | 8 => [true, true]
  | 9 => [true, true]
  | 10 => [false]
  | 11 => [false, false, false, true, false, false, false, false]
  | 12 => [false, false, false, false, true, true, true, true, false, false, false, true, false, false, false, false, false, false, true]
  | _ => []
/-- the kinds of arrays -/
def arT : Nat → FieldType := fun k => match k with
  | 0 => .int
  | 1 => .long
  | 2 => .object RX4
  | _ => .object RX7
/-- the texts of throws; classes that others can't be cast to -/
def strs : List (String × Nat × String) := [(RX1, 29, "a bishop fails"), (RX9, 19, "a swollen one fails"), (RX4, 18, "a guest fails"), (RX11, 328, "no such shelf"), (RX11, 335, "no row"), (RX11, 338, "no such place")]
def ncs : List (String × String) := [("java/lang/IllegalArgumentException", "java/lang/IllegalStateException"), ("java/lang/UnsupportedOperationException", "java/lang/IllegalStateException"), ("java/lang/UnsupportedOperationException", "java/lang/IllegalArgumentException"), ("java/lang/IllegalStateException", "java/lang/IllegalArgumentException")]

/-- what kind of thing a field holds: 0 an int, 1 a long, 2 a float, 3 a reference -/
def fT : Nat → Nat → Nat := fun k f => (([[0, 0, 0, 3, 3, 3, 2, 0], [3, 0, 0, 0, 0, 0, 0], [3, 0], [0, 0, 0, 0, 0, 3], [3, 0, 0], [0, 0, 0, 0, 3, 0, 3, 0, 3, 3], [3, 0, 3, 0], [3, 3, 3, 0, 3, 0, 3, 3, 3, 0, 3], [3, 0, 0, 0], [3, 3, 0], [3, 3, 0, 0, 0], [3, 0, 0, 0, 3, 3, 3, 0, 3], []] : List (List Nat)).getD k []).getD f 0
def nF : Nat → Nat := fun k => ([8, 7, 2, 6, 3, 10, 4, 11, 4, 3, 5, 9, 0] : List Nat).getD k 0
def tyA : List FieldType := [.int, .long, .int, .char, .boolean, .object RX0, .object RX1, .object RX3, .object RX6, .object RX8, .object RX10]

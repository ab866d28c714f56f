/-! ===== 03: the plan of the objects, in the order of their making (object 0 is the script) ===== -/
def sh_ty (c f : Nat) : FieldType := match c with
  | 0 => tyX0 f
  | 1 => tyX1 f
  | 2 => tyX2 f
  | 3 => tyX3 f
  | 4 => tyX4 f
  | 5 => tyX5 f
  | 6 => tyX6 f
  | _ => tyX7 f
def sh_KDl : List (Nat × Nat) := [(12, 0), (6, 9), (4, 5), (5, 12), (8, 6), (8, 6), (8, 6), (8, 6), (8, 6), (8, 6), (8, 6), (3, 4), (8, 3), (8, 3), (8, 3), (8, 3), (8, 2), (4, 5), (5, 12), (8, 6), (8, 6), (8, 6), (8, 6), (8, 6), (8, 6), (8, 6), (3, 4), (8, 3), (8, 3), (8, 3), (8, 3), (8, 2), (4, 5), (5, 12), (8, 6), (8, 6), (8, 6), (8, 6), (8, 6), (8, 6), (8, 6), (3, 4), (8, 3), (8, 3), (8, 3), (8, 3), (8, 2), (2, 3), (11, 4), (4, 5), (5, 12), (8, 6), (8, 6), (8, 6), (8, 6), (8, 6), (8, 6), (8, 6), (3, 4), (8, 3), (8, 3), (8, 3), (8, 3), (8, 2), (4, 5), (5, 12), (8, 6), (8, 6), (8, 6), (8, 6), (8, 6), (8, 6), (8, 6), (3, 4), (8, 3), (8, 3), (8, 3), (8, 3), (8, 2), (4, 5), (5, 12), (8, 6), (8, 6), (8, 6), (8, 6), (8, 6), (8, 6), (8, 6), (3, 4), (8, 3), (8, 3), (8, 3), (8, 3), (8, 2), (4, 5), (5, 12), (8, 6), (8, 6), (8, 6), (8, 6), (8, 6), (8, 6), (8, 6), (3, 4), (8, 3), (8, 3), (8, 3), (8, 3), (8, 2), (1, 7), (10, 60), (8, 20), (8, 20), (8, 20), (0, 5), (9, 100), (9, 100), (8, 100), (8, 100)]
def sh_KD (o : Nat) : Nat × Nat := sh_KDl.getD o (12, 0)
def sh_nest : List (String × Nat × MethodName × String) := [(RX6, 11, yX4_init, RX6), (RX4, 11, yX5_init, RX6), (RX4, 20, yX3_init, RX6), (RX2, 24, yX4_init, RX6), (RX6, 31, yX1_init, RX6), (RX6, 38, yX0_init, RX6), (RX4, 100, yX6_isLamp, RX6), (RX4, 106, yX6_opposite, RX6), (RX4, 126, yX6_cellsToEdge, RX6), (RX4, 110, yX6_distanceAlong, RX6), (RX4, 137, yX6_cellAlong, RX6), (RX0, 29, yX6_isCell, RX6), (RX0, 37, yX6_cellsToEdge, RX6), (RX0, 41, yX6_cellAlong, RX6), (RX5, 49, yX6_copyRow, RX6), (RX3, 24, yX6_copyRow, RX6), (RX4, 43, yX6_copyRow, RX6), (RX5, 72, yX6_cellAlong, RX6), (RX5, 76, yX6_cellsToEdge, RX6), (RX4, 143, yX6_isCell, RX6), (RX5, 53, yX6_isCell, RX6), (RX5, 64, yX6_replace, RX6), (RX3, 28, yX6_replace, RX6), (RX3, 36, yX6_isLamp, RX6)]

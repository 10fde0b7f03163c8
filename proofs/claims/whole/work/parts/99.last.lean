theorem zz_t1 (x y : Int32) (r : List Value) : mm_alu .iadd (.int y :: .int x :: r) = some (.int (x + y) :: r) := rfl

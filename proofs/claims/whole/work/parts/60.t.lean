theorem pt_x (i : Int32) : i = i := rfl

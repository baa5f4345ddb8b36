theorem h_ki {v : Int32} : (Value.int v).category = 1 := rfl
theorem h_kr {a : Nat} : (Value.ref a).category = 1 := rfl
theorem h_kn : Value.null.category = 1 := rfl
theorem h_kl {v : Int64} : (Value.long v).category = 2 := rfl
theorem h_kd {v : UInt64} : (Value.double v).category = 2 := rfl

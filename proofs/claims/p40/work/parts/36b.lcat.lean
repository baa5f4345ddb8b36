theorem h_ki {v : Int32} : (Value.int v).category = 1 := rfl
theorem h_kr {a : Nat} : (Value.ref a).category = 1 := rfl
theorem h_kn : Value.null.category = 1 := rfl
theorem h_kl {v : Int64} : (Value.long v).category = 2 := rfl
theorem h_kd {v : UInt64} : (Value.double v).category = 2 := rfl
section HF
variable {p : Program} {l : Launch} {e : Env} {R : Room} {s : State} {m : MethodId} {args : Array Value} {below : List Frame} {meth : Method} {c : Code} {H : Heap} {locs : List Loc} {cells slots : Nat} {Q : State → Prop} {G : GL} {x : CS} {y y0 : MS} {o : Nat → Int32} {cc : ByteArray} {nL pc : Nat} {own : String} {rt : Option FieldType} {ls : Array Slot} {rest : List Value} {idx i k : Nat}
theorem h_fwi {v : Int32} {g : JFrame} (hW : h_W G y0 (x, h_wi y i k v, o) s.heap H locs) (kk : W p l e R s m args below meth c H locs (h_nx (h_wi y i k v) - h_nx y0) (h_sl (h_wi y i k v) - h_sl y0) Q g) : W p l e R s m args below meth c H locs (h_nx y - h_nx y0) (h_sl y - h_sl y0) Q g := kk
theorem h_fwr {v : Nat} {g : JFrame} (hW : h_W G y0 (x, h_wr y i k v, o) s.heap H locs) (kk : W p l e R s m args below meth c H locs (h_nx (h_wr y i k v) - h_nx y0) (h_sl (h_wr y i k v) - h_sl y0) Q g) : W p l e R s m args below meth c H locs (h_nx y - h_nx y0) (h_sl y - h_sl y0) Q g := kk
theorem h_fwa {v : Nat → Int32} {g : JFrame} (hW : h_W G y0 (x, h_wa y i v, o) s.heap H locs) (kk : W p l e R s m args below meth c H locs (h_nx (h_wa y i v) - h_nx y0) (h_sl (h_wa y i v) - h_sl y0) Q g) : W p l e R s m args below meth c H locs (h_nx y - h_nx y0) (h_sl y - h_sl y0) Q g := kk
end HF

/-! ROWS: an instruction a row, over zW -/
section
variable {ds : List zD} {l : Launch} {R : Room} {G : zG} {X : zX} {K : Option Value → zS → Prop} {u : zS} {pc : Nat} {lv : List (Nat × Value)} {st : List Value} {cc : ByteArray} {nL : Nat} {own : String} {ret : Option FieldType}
theorem r_iconst (hC : zC G X cc nL own ret) {n : Int} {v : Int32} (hd : decode cc pc = .ok (.iconst n, 1)) (hv : Int32.ofInt n = v) (k : zW ds l R G X K u (pc + 1) lv (.int v :: st)) : zW ds l R G X K u pc lv (st) := fun H locs ls h1 h2 h3 h4 => lv_iconst hC.1 hC.2.1 hd hv (k H locs ls h1 h2 h3 h4)
theorem r_bipush (hC : zC G X cc nL own ret) {n : Int} {v : Int32} (hd : decode cc pc = .ok (.bipush n, 2)) (hv : (Int8.ofInt n).toInt32 = v) (k : zW ds l R G X K u (pc + 2) lv (.int v :: st)) : zW ds l R G X K u pc lv (st) := fun H locs ls h1 h2 h3 h4 => lv_bipush hC.1 hC.2.1 hd hv (k H locs ls h1 h2 h3 h4)
theorem r_sipush (hC : zC G X cc nL own ret) {n : Int} {v : Int32} (hd : decode cc pc = .ok (.sipush n, 3)) (hv : (Int16.ofInt n).toInt32 = v) (k : zW ds l R G X K u (pc + 3) lv (.int v :: st)) : zW ds l R G X K u pc lv (st) := fun H locs ls h1 h2 h3 h4 => lv_sipush hC.1 hC.2.1 hd hv (k H locs ls h1 h2 h3 h4)
theorem r_lconst (hC : zC G X cc nL own ret) {n : Fin 2} {v : Int64} (hd : decode cc pc = .ok (.lconst n, 1)) (hv : Int64.ofNat (n : Nat) = v) (k : zW ds l R G X K u (pc + 1) lv (.long v :: st)) : zW ds l R G X K u pc lv (st) := fun H locs ls h1 h2 h3 h4 => lv_lconst hC.1 hC.2.1 hd hv (k H locs ls h1 h2 h3 h4)
theorem r_iload_n (hC : zC G X cc nL own ret) {k : Fin 4} {x : Int32} (hd : decode cc pc = .ok (.iload_n k, 1)) (j : Nat) (hj : lv[j]? = some ((k : Nat), .int x)) (k : zW ds l R G X K u (pc + 1) lv (.int x :: st)) : zW ds l R G X K u pc lv (st) := fun H locs ls h1 h2 h3 h4 => lv_iload_n hC.1 hC.2.1 hd rfl (lv_at h4 j hj) (k H locs ls h1 h2 h3 h4)
theorem r_iload (hC : zC G X cc nL own ret) {i : Nat} {x : Int32} (hd : decode cc pc = .ok (.iload i, 2)) (j : Nat) (hj : lv[j]? = some (i, .int x)) (k : zW ds l R G X K u (pc + 2) lv (.int x :: st)) : zW ds l R G X K u pc lv (st) := fun H locs ls h1 h2 h3 h4 => lv_iload hC.1 hC.2.1 hd (lv_at h4 j hj) (k H locs ls h1 h2 h3 h4)
theorem r_lload_n (hC : zC G X cc nL own ret) {k : Fin 4} {x : Int64} (hd : decode cc pc = .ok (.lload_n k, 1)) (j : Nat) (hj : lv[j]? = some ((k : Nat), .long x)) (k : zW ds l R G X K u (pc + 1) lv (.long x :: st)) : zW ds l R G X K u pc lv (st) := fun H locs ls h1 h2 h3 h4 => lv_lload_n hC.1 hC.2.1 hd rfl (lv_at h4 j hj) (k H locs ls h1 h2 h3 h4)
theorem r_lload (hC : zC G X cc nL own ret) {i : Nat} {x : Int64} (hd : decode cc pc = .ok (.lload i, 2)) (j : Nat) (hj : lv[j]? = some (i, .long x)) (k : zW ds l R G X K u (pc + 2) lv (.long x :: st)) : zW ds l R G X K u pc lv (st) := fun H locs ls h1 h2 h3 h4 => lv_lload hC.1 hC.2.1 hd (lv_at h4 j hj) (k H locs ls h1 h2 h3 h4)
theorem r_aload_n (hC : zC G X cc nL own ret) {k : Fin 4} {x : Nat} (hd : decode cc pc = .ok (.aload_n k, 1)) (j : Nat) (hj : lv[j]? = some ((k : Nat), .ref x)) (k : zW ds l R G X K u (pc + 1) lv (.ref x :: st)) : zW ds l R G X K u pc lv (st) := fun H locs ls h1 h2 h3 h4 => lv_aload_n hC.1 hC.2.1 hd rfl (lv_at h4 j hj) (k H locs ls h1 h2 h3 h4)
theorem r_aload (hC : zC G X cc nL own ret) {i : Nat} {x : Nat} (hd : decode cc pc = .ok (.aload i, 2)) (j : Nat) (hj : lv[j]? = some (i, .ref x)) (k : zW ds l R G X K u (pc + 2) lv (.ref x :: st)) : zW ds l R G X K u pc lv (st) := fun H locs ls h1 h2 h3 h4 => lv_aload hC.1 hC.2.1 hd (lv_at h4 j hj) (k H locs ls h1 h2 h3 h4)
theorem r_istore_n (hC : zC G X cc nL own ret) {k : Fin 4} {i : Nat} {x : Int32} {lv' : List (Nat × Value)} (hd : decode cc pc = .ok (.istore_n k, 1)) (hi : (k : Nat) = i) (hn : i < nL) (hl : (i, Value.int x) :: lv.filter (fun q => !(q.1 == i) && !(q.1 + 1 == i && q.2.category == 2)) = lv') (kk : zW ds l R G X K u (pc + 1) lv' st) : zW ds l R G X K u pc lv (Value.int x :: st) := fun H locs ls h1 h2 h3 h4 => lv_istore_n hC.1 hC.2.1 hd hi h4 (by rw [hC.2.2.1]; exact hn) hl (fun ls' h => kk H locs ls' h1 h2 h3 h)
theorem r_istore (hC : zC G X cc nL own ret) {i : Nat} {x : Int32} {lv' : List (Nat × Value)} (hd : decode cc pc = .ok (.istore i, 2)) (hn : i < nL) (hl : (i, Value.int x) :: lv.filter (fun q => !(q.1 == i) && !(q.1 + 1 == i && q.2.category == 2)) = lv') (kk : zW ds l R G X K u (pc + 2) lv' st) : zW ds l R G X K u pc lv (Value.int x :: st) := fun H locs ls h1 h2 h3 h4 => lv_istore hC.1 hC.2.1 hd h4 (by rw [hC.2.2.1]; exact hn) hl (fun ls' h => kk H locs ls' h1 h2 h3 h)
theorem r_lstore_n (hC : zC G X cc nL own ret) {k : Fin 4} {i : Nat} {x : Int64} {lv' : List (Nat × Value)} (hd : decode cc pc = .ok (.lstore_n k, 1)) (hi : (k : Nat) = i) (hn : i + 1 < nL) (hl : (i, Value.long x) :: lv.filter (fun q => !(q.1 == i) && (!(q.1 == i + 1) && !(q.1 + 1 == i && q.2.category == 2))) = lv') (kk : zW ds l R G X K u (pc + 1) lv' st) : zW ds l R G X K u pc lv (Value.long x :: st) := fun H locs ls h1 h2 h3 h4 => lv_lstore_n hC.1 hC.2.1 hd hi h4 (by rw [hC.2.2.1]; exact hn) hl (fun ls' h => kk H locs ls' h1 h2 h3 h)
theorem r_lstore (hC : zC G X cc nL own ret) {i : Nat} {x : Int64} {lv' : List (Nat × Value)} (hd : decode cc pc = .ok (.lstore i, 2)) (hn : i + 1 < nL) (hl : (i, Value.long x) :: lv.filter (fun q => !(q.1 == i) && (!(q.1 == i + 1) && !(q.1 + 1 == i && q.2.category == 2))) = lv') (kk : zW ds l R G X K u (pc + 2) lv' st) : zW ds l R G X K u pc lv (Value.long x :: st) := fun H locs ls h1 h2 h3 h4 => lv_lstore hC.1 hC.2.1 hd h4 (by rw [hC.2.2.1]; exact hn) hl (fun ls' h => kk H locs ls' h1 h2 h3 h)
theorem r_iinc (hC : zC G X cc nL own ret) {i : Nat} {n : Int} {x v : Int32} {lv' : List (Nat × Value)} (hd : decode cc pc = .ok (.iinc i n, 3)) (j : Nat) (hj : lv[j]? = some (i, .int x)) (hv : Int32.ofInt n = v) (hn : i < nL) (hl : (i, Value.int (x + v)) :: lv.filter (fun q => !(q.1 == i) && !(q.1 + 1 == i && q.2.category == 2)) = lv') (kk : zW ds l R G X K u (pc + 3) lv' st) : zW ds l R G X K u pc lv st := fun H locs ls h1 h2 h3 h4 => lv_iinc hC.1 hC.2.1 hd h4 hj (by rw [hv]) (by rw [hC.2.2.1]; exact hn) hl (fun ls' h => kk H locs ls' h1 h2 h3 h)
theorem r_iadd (hC : zC G X cc nL own ret) {x y : Int32} (hd : decode cc pc = .ok (.iadd, 1))  (k : zW ds l R G X K u (pc + 1) lv (.int (x + y) :: st)) : zW ds l R G X K u pc lv (.int y :: .int x :: st) := fun H locs ls h1 h2 h3 h4 => lv_iadd hC.1 hC.2.1 hd  (k H locs ls h1 h2 h3 h4)
theorem r_isub (hC : zC G X cc nL own ret) {x y : Int32} (hd : decode cc pc = .ok (.isub, 1))  (k : zW ds l R G X K u (pc + 1) lv (.int (x - y) :: st)) : zW ds l R G X K u pc lv (.int y :: .int x :: st) := fun H locs ls h1 h2 h3 h4 => lv_isub hC.1 hC.2.1 hd  (k H locs ls h1 h2 h3 h4)
theorem r_imul (hC : zC G X cc nL own ret) {x y : Int32} (hd : decode cc pc = .ok (.imul, 1))  (k : zW ds l R G X K u (pc + 1) lv (.int (x * y) :: st)) : zW ds l R G X K u pc lv (.int y :: .int x :: st) := fun H locs ls h1 h2 h3 h4 => lv_imul hC.1 hC.2.1 hd  (k H locs ls h1 h2 h3 h4)
theorem r_iand (hC : zC G X cc nL own ret) {x y : Int32} (hd : decode cc pc = .ok (.iand, 1))  (k : zW ds l R G X K u (pc + 1) lv (.int (x &&& y) :: st)) : zW ds l R G X K u pc lv (.int y :: .int x :: st) := fun H locs ls h1 h2 h3 h4 => lv_iand hC.1 hC.2.1 hd  (k H locs ls h1 h2 h3 h4)
theorem r_ior (hC : zC G X cc nL own ret) {x y : Int32} (hd : decode cc pc = .ok (.ior, 1))  (k : zW ds l R G X K u (pc + 1) lv (.int (x ||| y) :: st)) : zW ds l R G X K u pc lv (.int y :: .int x :: st) := fun H locs ls h1 h2 h3 h4 => lv_ior hC.1 hC.2.1 hd  (k H locs ls h1 h2 h3 h4)
theorem r_ixor (hC : zC G X cc nL own ret) {x y : Int32} (hd : decode cc pc = .ok (.ixor, 1))  (k : zW ds l R G X K u (pc + 1) lv (.int (x ^^^ y) :: st)) : zW ds l R G X K u pc lv (.int y :: .int x :: st) := fun H locs ls h1 h2 h3 h4 => lv_ixor hC.1 hC.2.1 hd  (k H locs ls h1 h2 h3 h4)
theorem r_ishl (hC : zC G X cc nL own ret) {x y : Int32} (hd : decode cc pc = .ok (.ishl, 1))  (k : zW ds l R G X K u (pc + 1) lv (.int (x <<< (y &&& 31)) :: st)) : zW ds l R G X K u pc lv (.int y :: .int x :: st) := fun H locs ls h1 h2 h3 h4 => lv_ishl hC.1 hC.2.1 hd  (k H locs ls h1 h2 h3 h4)
theorem r_ishr (hC : zC G X cc nL own ret) {x y : Int32} (hd : decode cc pc = .ok (.ishr, 1))  (k : zW ds l R G X K u (pc + 1) lv (.int (x >>> (y &&& 31)) :: st)) : zW ds l R G X K u pc lv (.int y :: .int x :: st) := fun H locs ls h1 h2 h3 h4 => lv_ishr hC.1 hC.2.1 hd  (k H locs ls h1 h2 h3 h4)
theorem r_idiv (hC : zC G X cc nL own ret) {x y : Int32} (hd : decode cc pc = .ok (.idiv, 1)) (hne : ¬ y = 0) (k : zW ds l R G X K u (pc + 1) lv (.int (x / y) :: st)) : zW ds l R G X K u pc lv (.int y :: .int x :: st) := fun H locs ls h1 h2 h3 h4 => lv_idiv hC.1 hC.2.1 hd hne (k H locs ls h1 h2 h3 h4)
theorem r_irem (hC : zC G X cc nL own ret) {x y : Int32} (hd : decode cc pc = .ok (.irem, 1)) (hne : ¬ y = 0) (k : zW ds l R G X K u (pc + 1) lv (.int (x - x / y * y) :: st)) : zW ds l R G X K u pc lv (.int y :: .int x :: st) := fun H locs ls h1 h2 h3 h4 => lv_irem hC.1 hC.2.1 hd hne (k H locs ls h1 h2 h3 h4)
theorem r_iushr (hC : zC G X cc nL own ret) {x y : Int32} (hd : decode cc pc = .ok (.iushr, 1))  (k : zW ds l R G X K u (pc + 1) lv (.int ((x.toUInt32 >>> (y.toUInt32 &&& Int32.toUInt32 31)).toInt32) :: st)) : zW ds l R G X K u pc lv (.int y :: .int x :: st) := fun H locs ls h1 h2 h3 h4 => lv_iushr hC.1 hC.2.1 hd rfl (k H locs ls h1 h2 h3 h4)
theorem r_ladd (hC : zC G X cc nL own ret) {x y : Int64} (hd : decode cc pc = .ok (.ladd, 1))  (k : zW ds l R G X K u (pc + 1) lv (.long (x + y) :: st)) : zW ds l R G X K u pc lv (.long y :: .long x :: st) := fun H locs ls h1 h2 h3 h4 => lv_ladd hC.1 hC.2.1 hd  (k H locs ls h1 h2 h3 h4)
theorem r_lmul (hC : zC G X cc nL own ret) {x y : Int64} (hd : decode cc pc = .ok (.lmul, 1))  (k : zW ds l R G X K u (pc + 1) lv (.long (x * y) :: st)) : zW ds l R G X K u pc lv (.long y :: .long x :: st) := fun H locs ls h1 h2 h3 h4 => lv_lmul hC.1 hC.2.1 hd  (k H locs ls h1 h2 h3 h4)
theorem r_land (hC : zC G X cc nL own ret) {x y : Int64} (hd : decode cc pc = .ok (.land, 1))  (k : zW ds l R G X K u (pc + 1) lv (.long (x &&& y) :: st)) : zW ds l R G X K u pc lv (.long y :: .long x :: st) := fun H locs ls h1 h2 h3 h4 => lv_land hC.1 hC.2.1 hd  (k H locs ls h1 h2 h3 h4)
theorem r_lor (hC : zC G X cc nL own ret) {x y : Int64} (hd : decode cc pc = .ok (.lor, 1))  (k : zW ds l R G X K u (pc + 1) lv (.long (x ||| y) :: st)) : zW ds l R G X K u pc lv (.long y :: .long x :: st) := fun H locs ls h1 h2 h3 h4 => lv_lor hC.1 hC.2.1 hd  (k H locs ls h1 h2 h3 h4)
theorem r_ldiv (hC : zC G X cc nL own ret) {x y : Int64} (hd : decode cc pc = .ok (.ldiv, 1)) (hne : ¬ y = 0) (k : zW ds l R G X K u (pc + 1) lv (.long (x / y) :: st)) : zW ds l R G X K u pc lv (.long y :: .long x :: st) := fun H locs ls h1 h2 h3 h4 => lv_ldiv hC.1 hC.2.1 hd hne (k H locs ls h1 h2 h3 h4)
theorem r_lrem (hC : zC G X cc nL own ret) {x y : Int64} (hd : decode cc pc = .ok (.lrem, 1)) (hne : ¬ y = 0) (k : zW ds l R G X K u (pc + 1) lv (.long (x - x / y * y) :: st)) : zW ds l R G X K u pc lv (.long y :: .long x :: st) := fun H locs ls h1 h2 h3 h4 => lv_lrem hC.1 hC.2.1 hd hne (k H locs ls h1 h2 h3 h4)
theorem r_lshl (hC : zC G X cc nL own ret) {x : Int64} {y : Int32} (hd : decode cc pc = .ok (.lshl, 1))  (k : zW ds l R G X K u (pc + 1) lv (.long (x <<< (y.toInt64 &&& 63)) :: st)) : zW ds l R G X K u pc lv (.int y :: .long x :: st) := fun H locs ls h1 h2 h3 h4 => lv_lshl hC.1 hC.2.1 hd rfl (k H locs ls h1 h2 h3 h4)
theorem r_lcmp (hC : zC G X cc nL own ret) {x y : Int64} (hd : decode cc pc = .ok (.lcmp, 1))  (k : zW ds l R G X K u (pc + 1) lv (.int (lg_cmp x y) :: st)) : zW ds l R G X K u pc lv (.long y :: .long x :: st) := fun H locs ls h1 h2 h3 h4 => W.lcmp hC.1 hC.2.1 hd  (k H locs ls h1 h2 h3 h4)
theorem r_i2l (hC : zC G X cc nL own ret) {x : Int32} (hd : decode cc pc = .ok (.i2l, 1))  (k : zW ds l R G X K u (pc + 1) lv (.long x.toInt64 :: st)) : zW ds l R G X K u pc lv (.int x :: st) := fun H locs ls h1 h2 h3 h4 => lv_i2l hC.1 hC.2.1 hd rfl (k H locs ls h1 h2 h3 h4)
theorem r_l2i (hC : zC G X cc nL own ret) {x : Int64} (hd : decode cc pc = .ok (.l2i, 1))  (k : zW ds l R G X K u (pc + 1) lv (.int x.toInt32 :: st)) : zW ds l R G X K u pc lv (.long x :: st) := fun H locs ls h1 h2 h3 h4 => lv_l2i hC.1 hC.2.1 hd rfl (k H locs ls h1 h2 h3 h4)
theorem r_i2b (hC : zC G X cc nL own ret) {x : Int32} (hd : decode cc pc = .ok (.i2b, 1))  (k : zW ds l R G X K u (pc + 1) lv (.int x.toInt8.toInt32 :: st)) : zW ds l R G X K u pc lv (.int x :: st) := fun H locs ls h1 h2 h3 h4 => lv_i2b hC.1 hC.2.1 hd rfl (k H locs ls h1 h2 h3 h4)
theorem r_i2s (hC : zC G X cc nL own ret) {x : Int32} (hd : decode cc pc = .ok (.i2s, 1))  (k : zW ds l R G X K u (pc + 1) lv (.int x.toInt16.toInt32 :: st)) : zW ds l R G X K u pc lv (.int x :: st) := fun H locs ls h1 h2 h3 h4 => lv_i2s hC.1 hC.2.1 hd rfl (k H locs ls h1 h2 h3 h4)
theorem r_dup (hC : zC G X cc nL own ret) {va : Value} (hd : decode cc pc = .ok (.dup, 1)) (hv : va.category = 1) (k : zW ds l R G X K u (pc + 1) lv (va :: va :: st)) : zW ds l R G X K u pc lv (va :: st) := fun H locs ls h1 h2 h3 h4 => lv_dup hC.1 hC.2.1 hd hv (k H locs ls h1 h2 h3 h4)
theorem r_pop (hC : zC G X cc nL own ret) {va : Value} (hd : decode cc pc = .ok (.pop, 1)) (hv : va.category = 1) (k : zW ds l R G X K u (pc + 1) lv (st)) : zW ds l R G X K u pc lv (va :: st) := fun H locs ls h1 h2 h3 h4 => lv_pop hC.1 hC.2.1 hd hv (k H locs ls h1 h2 h3 h4)
theorem r_dup2 (hC : zC G X cc nL own ret) {va vb : Value} (hd : decode cc pc = .ok (.dup2, 1)) (hv : va.category = 1) (hw : vb.category = 1) (k : zW ds l R G X K u (pc + 1) lv (va :: vb :: va :: vb :: st)) : zW ds l R G X K u pc lv (va :: vb :: st) := fun H locs ls h1 h2 h3 h4 => lv_dup2_11 hC.1 hC.2.1 hd hv hw (k H locs ls h1 h2 h3 h4)
theorem r_goto (hC : zC G X cc nL own ret) {off : Int} {tgt : Nat} (hd : decode cc pc = .ok (.goto off, 3)) (ht : (pc : Int) + off = (tgt : Int)) (k : zW ds l R G X K u tgt lv st) : zW ds l R G X K u pc lv st := fun H locs ls h1 h2 h3 h4 => lv_goto hC.1 hC.2.1 hd ht (k H locs ls h1 h2 h3 h4)
theorem r_if_eq (hC : zC G X cc nL own ret) {x : Int32} {off : Int} {tgt : Nat} (hd : decode cc pc = .ok (.ifCond .eq off, 3)) (ht : (pc : Int) + off = (tgt : Int)) (kt : x = 0 → zW ds l R G X K u tgt lv st) (kf : ¬ x = 0 → zW ds l R G X K u (pc + 3) lv st) : zW ds l R G X K u pc lv (.int x :: st) := fun H locs ls h1 h2 h3 h4 => lv_if_eq hC.1 hC.2.1 hd ht (fun q => kt q H locs ls h1 h2 h3 h4) (fun q => kf q H locs ls h1 h2 h3 h4)
theorem r_if_ne (hC : zC G X cc nL own ret) {x : Int32} {off : Int} {tgt : Nat} (hd : decode cc pc = .ok (.ifCond .ne off, 3)) (ht : (pc : Int) + off = (tgt : Int)) (kt : ¬ x = 0 → zW ds l R G X K u tgt lv st) (kf : x = 0 → zW ds l R G X K u (pc + 3) lv st) : zW ds l R G X K u pc lv (.int x :: st) := fun H locs ls h1 h2 h3 h4 => lv_if_ne hC.1 hC.2.1 hd ht (fun q => kt q H locs ls h1 h2 h3 h4) (fun q => kf q H locs ls h1 h2 h3 h4)
theorem r_if_lt (hC : zC G X cc nL own ret) {x : Int32} {off : Int} {tgt : Nat} (hd : decode cc pc = .ok (.ifCond .lt off, 3)) (ht : (pc : Int) + off = (tgt : Int)) (kt : x < 0 → zW ds l R G X K u tgt lv st) (kf : ¬ x < 0 → zW ds l R G X K u (pc + 3) lv st) : zW ds l R G X K u pc lv (.int x :: st) := fun H locs ls h1 h2 h3 h4 => lv_if_lt hC.1 hC.2.1 hd ht (fun q => kt q H locs ls h1 h2 h3 h4) (fun q => kf q H locs ls h1 h2 h3 h4)
theorem r_if_ge (hC : zC G X cc nL own ret) {x : Int32} {off : Int} {tgt : Nat} (hd : decode cc pc = .ok (.ifCond .ge off, 3)) (ht : (pc : Int) + off = (tgt : Int)) (kt : 0 ≤ x → zW ds l R G X K u tgt lv st) (kf : ¬ 0 ≤ x → zW ds l R G X K u (pc + 3) lv st) : zW ds l R G X K u pc lv (.int x :: st) := fun H locs ls h1 h2 h3 h4 => lv_if_ge hC.1 hC.2.1 hd ht (fun q => kt q H locs ls h1 h2 h3 h4) (fun q => kf q H locs ls h1 h2 h3 h4)
theorem r_if_gt (hC : zC G X cc nL own ret) {x : Int32} {off : Int} {tgt : Nat} (hd : decode cc pc = .ok (.ifCond .gt off, 3)) (ht : (pc : Int) + off = (tgt : Int)) (kt : 0 < x → zW ds l R G X K u tgt lv st) (kf : ¬ 0 < x → zW ds l R G X K u (pc + 3) lv st) : zW ds l R G X K u pc lv (.int x :: st) := fun H locs ls h1 h2 h3 h4 => lv_if_gt hC.1 hC.2.1 hd ht (fun q => kt q H locs ls h1 h2 h3 h4) (fun q => kf q H locs ls h1 h2 h3 h4)
theorem r_if_le (hC : zC G X cc nL own ret) {x : Int32} {off : Int} {tgt : Nat} (hd : decode cc pc = .ok (.ifCond .le off, 3)) (ht : (pc : Int) + off = (tgt : Int)) (kt : x ≤ 0 → zW ds l R G X K u tgt lv st) (kf : ¬ x ≤ 0 → zW ds l R G X K u (pc + 3) lv st) : zW ds l R G X K u pc lv (.int x :: st) := fun H locs ls h1 h2 h3 h4 => lv_if_le hC.1 hC.2.1 hd ht (fun q => kt q H locs ls h1 h2 h3 h4) (fun q => kf q H locs ls h1 h2 h3 h4)
theorem r_icmp_eq (hC : zC G X cc nL own ret) {x y : Int32} {off : Int} {tgt : Nat} (hd : decode cc pc = .ok (.if_icmp .eq off, 3)) (ht : (pc : Int) + off = (tgt : Int)) (kt : x = y → zW ds l R G X K u tgt lv st) (kf : ¬ x = y → zW ds l R G X K u (pc + 3) lv st) : zW ds l R G X K u pc lv (.int y :: .int x :: st) := fun H locs ls h1 h2 h3 h4 => lv_icmp_eq hC.1 hC.2.1 hd ht (fun q => kt q H locs ls h1 h2 h3 h4) (fun q => kf q H locs ls h1 h2 h3 h4)
theorem r_icmp_ne (hC : zC G X cc nL own ret) {x y : Int32} {off : Int} {tgt : Nat} (hd : decode cc pc = .ok (.if_icmp .ne off, 3)) (ht : (pc : Int) + off = (tgt : Int)) (kt : ¬ x = y → zW ds l R G X K u tgt lv st) (kf : x = y → zW ds l R G X K u (pc + 3) lv st) : zW ds l R G X K u pc lv (.int y :: .int x :: st) := fun H locs ls h1 h2 h3 h4 => lv_icmp_ne hC.1 hC.2.1 hd ht (fun q => kt q H locs ls h1 h2 h3 h4) (fun q => kf q H locs ls h1 h2 h3 h4)
theorem r_icmp_lt (hC : zC G X cc nL own ret) {x y : Int32} {off : Int} {tgt : Nat} (hd : decode cc pc = .ok (.if_icmp .lt off, 3)) (ht : (pc : Int) + off = (tgt : Int)) (kt : x < y → zW ds l R G X K u tgt lv st) (kf : ¬ x < y → zW ds l R G X K u (pc + 3) lv st) : zW ds l R G X K u pc lv (.int y :: .int x :: st) := fun H locs ls h1 h2 h3 h4 => lv_icmp_lt hC.1 hC.2.1 hd ht (fun q => kt q H locs ls h1 h2 h3 h4) (fun q => kf q H locs ls h1 h2 h3 h4)
theorem r_icmp_ge (hC : zC G X cc nL own ret) {x y : Int32} {off : Int} {tgt : Nat} (hd : decode cc pc = .ok (.if_icmp .ge off, 3)) (ht : (pc : Int) + off = (tgt : Int)) (kt : y ≤ x → zW ds l R G X K u tgt lv st) (kf : ¬ y ≤ x → zW ds l R G X K u (pc + 3) lv st) : zW ds l R G X K u pc lv (.int y :: .int x :: st) := fun H locs ls h1 h2 h3 h4 => lv_icmp_ge hC.1 hC.2.1 hd ht (fun q => kt q H locs ls h1 h2 h3 h4) (fun q => kf q H locs ls h1 h2 h3 h4)
theorem r_icmp_gt (hC : zC G X cc nL own ret) {x y : Int32} {off : Int} {tgt : Nat} (hd : decode cc pc = .ok (.if_icmp .gt off, 3)) (ht : (pc : Int) + off = (tgt : Int)) (kt : y < x → zW ds l R G X K u tgt lv st) (kf : ¬ y < x → zW ds l R G X K u (pc + 3) lv st) : zW ds l R G X K u pc lv (.int y :: .int x :: st) := fun H locs ls h1 h2 h3 h4 => lv_icmp_gt hC.1 hC.2.1 hd ht (fun q => kt q H locs ls h1 h2 h3 h4) (fun q => kf q H locs ls h1 h2 h3 h4)
theorem r_icmp_le (hC : zC G X cc nL own ret) {x y : Int32} {off : Int} {tgt : Nat} (hd : decode cc pc = .ok (.if_icmp .le off, 3)) (ht : (pc : Int) + off = (tgt : Int)) (kt : x ≤ y → zW ds l R G X K u tgt lv st) (kf : ¬ x ≤ y → zW ds l R G X K u (pc + 3) lv st) : zW ds l R G X K u pc lv (.int y :: .int x :: st) := fun H locs ls h1 h2 h3 h4 => lv_icmp_le hC.1 hC.2.1 hd ht (fun q => kt q H locs ls h1 h2 h3 h4) (fun q => kf q H locs ls h1 h2 h3 h4)
theorem r_ldc (hC : zC G X cc nL own ret) {idx : Nat} {v : Int32} (hm : Cond.constant own idx v ∈ tblG) (hd : decode cc pc = .ok (.ldc idx, 2)) (k : zW ds l R G X K u (pc + 2) lv (.int v :: st)) : zW ds l R G X K u pc lv st := fun H locs ls h1 h2 h3 h4 => lv_ldc hC.1 hC.2.1 hC.2.2.2.1 (hC.2.2.2.2.1 _ hm) hd (k H locs ls h1 h2 h3 h4)
theorem r_ldcw (hC : zC G X cc nL own ret) {idx : Nat} {v : Int32} (hm : Cond.constant own idx v ∈ tblG) (hd : decode cc pc = .ok (.ldc_w idx, 3)) (k : zW ds l R G X K u (pc + 3) lv (.int v :: st)) : zW ds l R G X K u pc lv st := fun H locs ls h1 h2 h3 h4 => lv_ldcw hC.1 hC.2.1 hC.2.2.2.1 (hC.2.2.2.2.1 _ hm) hd (k H locs ls h1 h2 h3 h4)
theorem r_ldc2 (hC : zC G X cc nL own ret) {idx : Nat} {v : Int64} (hm : Cond.constantLong own idx v ∈ tblG) (hd : decode cc pc = .ok (.ldc2_w idx, 3)) (k : zW ds l R G X K u (pc + 3) lv (.long v :: st)) : zW ds l R G X K u pc lv st := fun H locs ls h1 h2 h3 h4 => lv_ldc2 hC.1 hC.2.1 hC.2.2.2.1 (hC.2.2.2.2.1 _ hm) hd (k H locs ls h1 h2 h3 h4)
theorem r_tsIn (hC : zC G X cc nL own ret) {dflt lo hi : Int} {offs : Array Int} {len : Nat} {x q : Int32} {off : Int} {tgt : Nat} (hd : decode cc pc = .ok (.tableswitch dflt lo hi offs, len)) (hq : x = q) (hh : ¬ q.toInt < lo ∧ ¬ hi < q.toInt ∧ offs[(q.toInt - lo).toNat]? = some off) (ht : (pc : Int) + off = (tgt : Int)) (k : zW ds l R G X K u tgt lv st) : zW ds l R G X K u pc lv (.int x :: st) := by
  subst hq
  exact fun H locs ls h1 h2 h3 h4 => lv_tableIn hC.1 hC.2.1 hd hh.1 hh.2.1 hh.2.2 ht (k H locs ls h1 h2 h3 h4)
theorem r_tsOut (hC : zC G X cc nL own ret) {dflt lo hi : Int} {offs : Array Int} {len : Nat} {x : Int32} {tgt : Nat} (hd : decode cc pc = .ok (.tableswitch dflt lo hi offs, len)) (hh : x.toInt < lo ∨ hi < x.toInt) (ht : (pc : Int) + dflt = (tgt : Int)) (k : zW ds l R G X K u tgt lv st) : zW ds l R G X K u pc lv (.int x :: st) := fun H locs ls h1 h2 h3 h4 => lv_tableOut hC.1 hC.2.1 hd hh ht (k H locs ls h1 h2 h3 h4)
theorem r_lsw (hC : zC G X cc nL own ret) {dflt : Int} {ps : Array (Int × Int)} {len : Nat} {x : Int32} {off : Int} {tgt : Nat} (hd : decode cc pc = .ok (.lookupswitch dflt ps, len)) (hp : (ps.toList.zip (ps.toList.drop 1)).all (fun (a, next) => a.1 < next.1) = true) (ho : Op.lookupswitch.offset ps.toList dflt x.toInt = off) (ht : (pc : Int) + off = (tgt : Int)) (k : zW ds l R G X K u tgt lv st) : zW ds l R G X K u pc lv (.int x :: st) := fun H locs ls h1 h2 h3 h4 => lv_lookup hC.1 hC.2.1 hd hp ho ht (k H locs ls h1 h2 h3 h4)
/-- the locals in another order, or fewer of them -/
theorem r_loc {lv' : List (Nat × Value)} (ks : List Nat) (hl : lv_pick lv ks = lv') (k : zW ds l R G X K u pc lv' st) : zW ds l R G X K u pc lv st := fun H locs ls h1 h2 h3 h4 => k H locs ls h1 h2 h3 (lv_sub h4 ks hl)
theorem r_iret (hC : zC G X cc nL own (some .int)) {v : Int32} (hd : decode cc pc = .ok (.ireturn, 1)) (hk : K (some (.int v)) u) : zW ds l R G X K u pc lv [.int v] := fun H locs ls h1 h2 h3 h4 =>
  W.iret hC.1 hC.2.1 hC.2.2.2.2.2.2.2.1 (fun t ht hW => ⟨⟨_, _, rfl, hk, by rw [ht]; exact h1, va_K.moved hW.alike hC.2.2.2.2.2.1, h2⟩, h3.F ht⟩) h3.2.2 hd hC.2.2.2.2.2.2.2.2.1
theorem r_zret (hC : zC G X cc nL own (some .boolean)) {v : Int32} (hn : narrow .boolean (.int v) = .int v) (hd : decode cc pc = .ok (.ireturn, 1)) (hk : K (some (.int v)) u) : zW ds l R G X K u pc lv [.int v] := fun H locs ls h1 h2 h3 h4 =>
  W.zret hC.1 hC.2.1 hC.2.2.2.2.2.2.2.1 hn (fun t ht hW => ⟨⟨_, _, rfl, hk, by rw [ht]; exact h1, va_K.moved hW.alike hC.2.2.2.2.2.1, h2⟩, h3.F ht⟩) h3.2.2 hd hC.2.2.2.2.2.2.2.2.1
theorem r_lret (hC : zC G X cc nL own (some .long)) {v : Int64} (hd : decode cc pc = .ok (.lreturn, 1)) (hk : K (some (.long v)) u) : zW ds l R G X K u pc lv [.long v] := fun H locs ls h1 h2 h3 h4 =>
  W.lret hC.1 hC.2.1 hC.2.2.2.2.2.2.2.1 (fun t ht hW => ⟨⟨_, _, rfl, hk, by rw [ht]; exact h1, va_K.moved hW.alike hC.2.2.2.2.2.1, h2⟩, h3.F ht⟩) h3.2.2 hd hC.2.2.2.2.2.2.2.2.1
theorem r_vret (hC : zC G X cc nL own none) (hd : decode cc pc = .ok (.return_, 1)) (hk : K none u) : zW ds l R G X K u pc lv [] := fun H locs ls h1 h2 h3 h4 =>
  W.vret hC.1 hC.2.1 hC.2.2.2.2.2.2.2.1 (fun t ht hW => ⟨⟨_, _, rfl, hk, by rw [ht]; exact h1, va_K.moved hW.alike hC.2.2.2.2.2.1, h2⟩, h3.F ht⟩) h3.2.2 hd hC.2.2.2.2.2.2.2.2.1
/-- a field as the tables have it, read -/
def zFd (own : String) (idx ci k : Nat) : Prop := ∃ (C : String) (T : u_T) (N : Nat), vwCl[ci]? = some (C, T, N) ∧ (∀ w ∈ u_ws C T N, w ∈ tblG) ∧ k < N ∧ Cond.fieldLink own idx (T k).1 (T k).2.1 (T k).2.2.1 ∈ tblG
/-- a field as the tables have it, written -/
def zFp (own : String) (idx ci k : Nat) (ty : FieldType) : Prop := ∃ (C : String) (T : u_T) (N : Nat) (ty0 : Nat → FieldType), vwCl[ci]? = some (C, T, N) ∧ (∀ w ∈ u_ws C T N, w ∈ tblG) ∧ k < N ∧ Cond.fieldLink own idx (T k).1 (T k).2.1 (T k).2.2.1 ∈ tblG ∧ (∀ k, k < N → parseFieldDescriptor (T k).2.2.1 = some (ty0 k)) ∧ (∀ a, a < N → ∀ b, b < N → a ≠ b → (T a).2.1 ≠ (T b).2.1) ∧ (T k).2.2.2 = false ∧ parseFieldDescriptor (T k).2.2.1 = some ty
theorem r_geti (hC : zC G X cc nL own ret) {c ci k idx : Nat} {fs : List zF} (hF : zFd own idx ci k) (hr : ds[c]? = some (.inl (ci, fs))) (hf : fs[k]? = some none) (hd : decode cc pc = .ok (.getfield idx, 3)) (kk : zW ds l R G X K u (pc + 3) lv (.int (u.1 c k) :: st)) : zW ds l R G X K u pc lv (.ref (G.1 c) :: st) := by
  obtain ⟨C, T, N, f1, f2, f3, f4⟩ := hF
  intro H locs ls h1 h2 h3 h4
  exact va_get hC.1 hC.2.1 hC.2.2.2.2.1 f2 hC.2.2.2.1 hC.2.2.2.2.2.1 h1 c (zpic_get hr) f1 k f3 (hC.2.2.2.2.1 _ f4) (fun _ h9 => h9) (by have := zfl_int (ad := G.1) (u := u) (c := c) fs 0 k hf; rwa [Nat.zero_add] at this) hd (kk H locs ls h1 h2 h3 h4)
theorem r_getr (hC : zC G X cc nL own ret) {c ci k idx r : Nat} {fs : List zF} (hF : zFd own idx ci k) (hr : ds[c]? = some (.inl (ci, fs))) (hf : fs[k]? = some (some r)) (hd : decode cc pc = .ok (.getfield idx, 3)) (kk : zW ds l R G X K u (pc + 3) lv (.ref (G.1 r) :: st)) : zW ds l R G X K u pc lv (.ref (G.1 c) :: st) := by
  obtain ⟨C, T, N, f1, f2, f3, f4⟩ := hF
  intro H locs ls h1 h2 h3 h4
  exact va_get hC.1 hC.2.1 hC.2.2.2.2.1 f2 hC.2.2.2.1 hC.2.2.2.2.2.1 h1 c (zpic_get hr) f1 k f3 (hC.2.2.2.2.1 _ f4) (fun _ h9 => h9) (zfl_ref (ad := G.1) (u := u) (c := c) fs 0 k hf) hd (kk H locs ls h1 h2 h3 h4)
theorem r_putz (hC : zC G X cc nL own ret) {c ci k idx : Nat} {fs : List zF} {v : Int32} {ty : FieldType} (hF : zFp own idx ci k ty) (hn : narrow ty (.int v) = .int v) (hfit : fits ty (.int v) = true) (hr : ds[c]? = some (.inl (ci, fs))) (hf : fs[k]? = some none) (hd : decode cc pc = .ok (.putfield idx, 3)) (kk : zW ds l R G X K (wI u c k v) (pc + 3) lv st) : zW ds l R G X K u pc lv (.int v :: .ref (G.1 c) :: st) := by
  obtain ⟨C, T, N, ty0, f1, f2, f3, f4, f5, f6, f7, f8⟩ := hF
  intro H locs ls h1 h2 h3 h4
  refine va_put hC.1 hC.2.1 hC.2.2.2.2.1 f2 ty0 f5 f6 hC.2.2.2.1 hC.2.2.2.2.2.1 h1 h2 h3 c (zpic_get hr) f1 k f3 (hC.2.2.2.2.1 _ f4) (fun _ h9 => h9) f7 f8 hn hfit (by rw [zfl_len]; exact (List.getElem?_eq_some_iff.mp hf).1) hd (fun H1 locs1 g1 g2 g3 => ?_)
  have hs := zfl_set (ad := G.1) (u := u) (c := c) (v := v) fs 0 k hf
  rw [Nat.zero_add] at hs
  have e : (zpic ds G u).set c (G.1 c, .inr (ci, (zfl G.1 u c fs 0).set k (.int v))) = zpic ds G (wI u c k v) := zpic_set hr (fun a ha => ⟨wI_ne ha, rfl⟩) (by simp only [zce]; rw [hs])
  rw [e] at g1 g2
  exact kk H1 locs1 ls g1 g2 g3 h4
theorem r_puti (hC : zC G X cc nL own ret) {c ci k idx : Nat} {fs : List zF} {v : Int32} (hF : zFp own idx ci k .int) (hr : ds[c]? = some (.inl (ci, fs))) (hf : fs[k]? = some none) (hd : decode cc pc = .ok (.putfield idx, 3)) (kk : zW ds l R G X K (wI u c k v) (pc + 3) lv st) : zW ds l R G X K u pc lv (.int v :: .ref (G.1 c) :: st) := r_putz hC hF rfl rfl hr hf hd kk
theorem r_iald (hC : zC G X cc nL own ret) {c n : Nat} {i : Int32} (hr : ds[c]? = some (.inr (false, n))) (hin : vp_in i n) (hd : decode cc pc = .ok (.iaload, 1)) (kk : zW ds l R G X K u (pc + 1) lv (.int (u.1 c i.toNatClampNeg) :: st)) : zW ds l R G X K u pc lv (.int i :: .ref (G.1 c) :: st) := fun H locs ls h1 h2 h3 h4 =>
  va_iald hC.1 hC.2.1 hC.2.2.2.2.2.1 h1 c 0 (zpic_get hr) rfl hin hd (kk H locs ls h1 h2 h3 h4)
theorem r_lald (hC : zC G X cc nL own ret) {c n : Nat} {i : Int32} (hr : ds[c]? = some (.inr (true, n))) (hin : vp_in i n) (hd : decode cc pc = .ok (.laload, 1)) (kk : zW ds l R G X K u (pc + 1) lv (.long (u.2 c i.toNatClampNeg) :: st)) : zW ds l R G X K u pc lv (.int i :: .ref (G.1 c) :: st) := fun H locs ls h1 h2 h3 h4 =>
  va_lald hC.1 hC.2.1 hC.2.2.2.2.2.1 h1 c 1 (zpic_get hr) rfl hin hd (kk H locs ls h1 h2 h3 h4)
theorem r_iast (hC : zC G X cc nL own ret) {c n : Nat} {i v : Int32} (hr : ds[c]? = some (.inr (false, n))) (hin : vp_in i n) (hd : decode cc pc = .ok (.iastore, 1)) (kk : zW ds l R G X K (wI u c i.toNatClampNeg v) (pc + 1) lv st) : zW ds l R G X K u pc lv (.int v :: .int i :: .ref (G.1 c) :: st) := by
  intro H locs ls h1 h2 h3 h4
  refine va_iast hC.1 hC.2.1 hC.2.2.2.2.2.1 h1 h2 h3 c 0 (zpic_get hr) rfl hin hd (fun H1 locs1 g1 g2 g3 => ?_)
  have e : (zpic ds G u).set c (G.1 c, .inl (G.2.1, n, .inl (upd (u.1 c) i.toNatClampNeg v))) = zpic ds G (wI u c i.toNatClampNeg v) := zpic_set hr (fun a ha => ⟨wI_ne ha, rfl⟩) (by simp only [zce]; rw [wI_at])
  rw [e] at g1 g2
  exact kk H1 locs1 ls g1 g2 g3 h4
theorem r_last (hC : zC G X cc nL own ret) {c n : Nat} {i : Int32} {v : Int64} (hr : ds[c]? = some (.inr (true, n))) (hin : vp_in i n) (hd : decode cc pc = .ok (.lastore, 1)) (kk : zW ds l R G X K (wL u c i.toNatClampNeg v) (pc + 1) lv st) : zW ds l R G X K u pc lv (.long v :: .int i :: .ref (G.1 c) :: st) := by
  intro H locs ls h1 h2 h3 h4
  refine va_last hC.1 hC.2.1 hC.2.2.2.2.2.1 h1 h2 h3 c 1 (zpic_get hr) rfl hin hd (fun H1 locs1 g1 g2 g3 => ?_)
  have e : (zpic ds G u).set c (G.1 c, .inl (G.2.2.1, n, .inr (.inl (vp_updL (u.2 c) i.toNatClampNeg v)))) = zpic ds G (wL u c i.toNatClampNeg v) := zpic_set hr (fun a ha => ⟨rfl, wL_ne ha⟩) (by simp only [zce]; rw [wL_at])
  first | rw [e] at g1 g2 | (rw [show ∀ f : Nat → Int64, (fun j => if j = i.toNatClampNeg then v else f j) = vp_updL f i.toNatClampNeg v from fun _ => rfl, e] at g1 g2)
  exact kk H1 locs1 ls g1 g2 g3 h4
def cpOk (sp dp n : Int32) (n0 n1 : Nat) : Prop := ¬ sp < 0 ∧ ¬ dp < 0 ∧ ¬ n < 0 ∧ sp.toNatClampNeg + n.toNatClampNeg ≤ n0 ∧ dp.toNatClampNeg + n.toNatClampNeg ≤ n1
def zAc (own : String) (idx : Nat) : Prop := Cond.methodLink own idx arraycopyName ∈ tblG ∧ Cond.native arraycopyName ∈ tblG ∧ Cond.static arraycopyName ∈ tblG ∧ Cond.initialized "java/lang/System" ∈ tblG
theorem r_cpi (hC : zC G X cc nL own ret) {a b n0 n1 idx : Nat} {sp dp n : Int32} (hL : zAc own idx) (hr0 : ds[a]? = some (.inr (false, n0))) (hr1 : ds[b]? = some (.inr (false, n1))) (ho : cpOk sp dp n n0 n1) (hR : 1 ≤ R.frames ∧ (st.map fun v => v.category).sum + 18 ≤ R.locals) (hd : decode cc pc = .ok (.invokestatic idx, 3)) (kk : zW ds l R G X K (cpI u a sp.toNatClampNeg b dp.toNatClampNeg n.toNatClampNeg) (pc + 3) lv st) : zW ds l R G X K u pc lv (.int n :: .int dp :: .ref (G.1 b) :: .int sp :: .ref (G.1 a) :: st) := by
  obtain ⟨k1, k2, k3, k4⟩ := hL
  obtain ⟨o1, o2, o3, o4, o5⟩ := ho
  intro H locs ls h1 h2 h3 h4
  refine va_copyi hC.1 hC.2.1 h4.1.symm hC.2.2.2.1 (hC.2.2.2.2.1 _ k1) (hC.2.2.2.2.1 _ k2) (hC.2.2.2.2.1 _ k3) (hC.2.2.2.2.1 _ k4) hC.2.2.2.2.2.1 h1 h2 h3 a b 0 0 (zpic_get hr0) (zpic_get hr1) rfl rfl rfl o1 o2 o3 o4 o5 (fun _ _ => rfl) hR.1 hR.2 hd (fun H1 locs1 g1 g2 g3 => ?_)
  have e : (zpic ds G u).set b (G.1 b, .inl (G.2.1, n1, .inl (va_cpy (u.1 a) (u.1 b) sp.toNatClampNeg dp.toNatClampNeg n.toNatClampNeg))) = zpic ds G (cpI u a sp.toNatClampNeg b dp.toNatClampNeg n.toNatClampNeg) := zpic_set hr1 (fun q hq => ⟨by funext j; simp [cpI, hq], rfl⟩) (by simp only [zce]; congr 4; funext j; simp [cpI])
  rw [e] at g1 g2
  exact kk H1 locs1 ls g1 g2 g3 h4
theorem r_cpl (hC : zC G X cc nL own ret) {a b n0 n1 idx : Nat} {sp dp n : Int32} (hL : zAc own idx) (hr0 : ds[a]? = some (.inr (true, n0))) (hr1 : ds[b]? = some (.inr (true, n1))) (ho : cpOk sp dp n n0 n1) (hR : 1 ≤ R.frames ∧ (st.map fun v => v.category).sum + 18 ≤ R.locals) (hd : decode cc pc = .ok (.invokestatic idx, 3)) (kk : zW ds l R G X K (cpL u a sp.toNatClampNeg b dp.toNatClampNeg n.toNatClampNeg) (pc + 3) lv st) : zW ds l R G X K u pc lv (.int n :: .int dp :: .ref (G.1 b) :: .int sp :: .ref (G.1 a) :: st) := by
  obtain ⟨k1, k2, k3, k4⟩ := hL
  obtain ⟨o1, o2, o3, o4, o5⟩ := ho
  intro H locs ls h1 h2 h3 h4
  refine va_copyl hC.1 hC.2.1 h4.1.symm hC.2.2.2.1 (hC.2.2.2.2.1 _ k1) (hC.2.2.2.2.1 _ k2) (hC.2.2.2.2.1 _ k3) (hC.2.2.2.2.1 _ k4) hC.2.2.2.2.2.1 h1 h2 h3 a b 1 1 (zpic_get hr0) (zpic_get hr1) rfl rfl rfl o1 o2 o3 o4 o5 (fun _ _ => rfl) hR.1 hR.2 hd (fun H1 locs1 g1 g2 g3 => ?_)
  have e : (zpic ds G u).set b (G.1 b, .inl (G.2.2.1, n1, .inr (.inl (va_cpy (u.2 a) (u.2 b) sp.toNatClampNeg dp.toNatClampNeg n.toNatClampNeg)))) = zpic ds G (cpL u a sp.toNatClampNeg b dp.toNatClampNeg n.toNatClampNeg) := zpic_set hr1 (fun q hq => ⟨rfl, by funext j; simp [cpL, hq]⟩) (by simp only [zce]; congr 5; funext j; simp [cpL])
  rw [e] at g1 g2
  exact kk H1 locs1 ls g1 g2 g3 h4
/-- a method as the tables have it -/
def zNm (y : MethodName) (n : Nat) : Prop := y.cls ≠ "java/lang/invoke/MethodHandle" ∧ y.cls ≠ "java/lang/invoke/VarHandle" ∧ (parseMethodDescriptor y.desc).map (fun d => d.parameters.length) = some n
def zYv (y : MethodName) (bytes : ByteArray) (maxL : Nat) (yr : Option FieldType) (n ci : Nat) : Prop := Cond.code y bytes maxL yr ∈ tblG ∧ Cond.instanceMethod y ∈ tblG ∧ Cond.selects y.cls y y ∈ tblG ∧ Cond.initialized y.cls ∈ tblG ∧ zNm y n ∧ (vwCl[ci]?).map (fun q => q.1) = some y.cls
def zYs (y : MethodName) (bytes : ByteArray) (maxL : Nat) (yr : Option FieldType) (n : Nat) : Prop := Cond.code y bytes maxL yr ∈ tblG ∧ Cond.static y ∈ tblG ∧ Cond.initialized y.cls ∈ tblG ∧ zNm y n
def zRm (rm R : Room) (maxL : Nat) : Prop := rm.frames + 1 ≤ R.frames ∧ 8 + (maxL + 11) + rm.locals ≤ R.locals ∧ rm.cells = 0 ∧ rm.slots = 0
theorem zPre_blind {av : List Value} {sz : Nat} {w : zS} : FrameBlind (va_Pc av (zPre ds G w sz)) := fun a U g mk q => by
  obtain ⟨q0, q1, qP, qK, qD, qN⟩ := q
  exact ⟨q0, q1, qP, va_K.moved (u := U) (U := U.calling g mk a) (Vm.Alike.refl U.vm) qK, qD, zNst_same (s := U) (U := U.calling g mk a) rfl qN⟩
theorem zPre_at (hC : zC G X cc nL own ret) {av : List Value} {H : Heap} (h1 : va_P G.2.2.2 vwCl (zpic ds G u) H) (h2 : va_D X.2.2 (zpic ds G u)) (U : State) (hU : U.heap = H) (hW : X.1.2.2.WarmedH U.vm) : va_Pc av (zPre ds G u H.size) av.toArray U := ⟨rfl, by rw [hU], by rw [hU]; exact h1, va_K.moved hW.alike hC.2.2.2.2.2.1, h2.weaken (fun _ _ _ _ => trivial), zNst_warm hW hC.2.2.2.2.2.2.2.2.2⟩
theorem z_after (hC : zC G X cc nL own ret) {H : Heap} {locs : List Loc} {ls : Array Slot} {w : zS} {v : Option Value} {rest st0 : List Value} {a : Array Value} (h2 : va_D X.2.2 (zpic ds G u)) (h3 : va_S X.2.2 X.1.2.2.heap H locs) (h4 : lv_has ls X.2.1.2.2.2.2.maxLocals lv)
    (run : va_Run X.1.1 l X.1.2.1 R X.1.2.2 X.2.1.1 X.2.1.2.1 X.2.1.2.2.1 X.2.1.2.2.2.1 X.2.1.2.2.2.2 H locs 0 0 0 0 (F0 X.2.1.1 pc ls st0) rest (zQc ds G (va_A (zpic ds G u) H.size) (fun v2 w2 => v2 = v ∧ w2 = w) a) (va_A (zpic ds G u) H.size))
    (kk : zW ds l R G X K w (pc + 3) lv (v.toList ++ rest)) :
    W X.1.1 l X.1.2.1 R X.1.2.2 X.2.1.1 X.2.1.2.1 X.2.1.2.2.1 X.2.1.2.2.2.1 X.2.1.2.2.2.2 H locs 0 0 (MQ X.2.1.2.2.1 (zQc ds G X.2.2 K) X.2.1.2.1 X.1.2.2 0 0 X.2.2) (F0 X.2.1.1 pc ls st0) := by
  have hF : ∀ q, va_A (zpic ds G u) H.size q → X.2.2 q := by
    intro q hq
    rcases hq with ⟨k, e, hk⟩ | hq
    · exact h2.2 k _ hk
    · exact hC.2.2.2.2.2.2.1 q (Nat.le_trans h3.1 hq)
  intro T hT XX
  obtain ⟨v', st₀, t, T', L, h0, X', hL, e1, e2, ⟨⟨v2, u2, hv, ⟨q1, q2⟩, hP', hK', hD'⟩, hz, hk⟩, stp⟩ := run T hT XX
  have hv' : v' = v := by
    have := Outcome.returned.inj hv
    rw [this, q1]
  subst hv'
  subst q2
  rw [h0] at hz hk
  have hS : va_S X.2.2 X.1.2.2.heap T'.heap (locs ++ L) := ⟨Nat.le_trans h3.1 (by rw [e1]; exact hz), fun q g1 g2 => by rw [e1, hk q (Nat.lt_of_lt_of_le g1 h3.1) (fun z => g2 (hF q z))]; exact h3.2.1 q g1 g2, fun q hq => by
      rcases List.mem_append.mp hq with h | h
      · exact h3.2.2 q h
      · exact hF _ (hL q h)⟩
  obtain ⟨t2, a1, b1⟩ := kk T'.heap (locs ++ L) ls (by rw [e1]; exact hP') (hD'.weaken (fun _ q _ h => hF q.1 h)) hS h4 T' rfl X'
  exact ⟨t2, stp t2 a1, b1⟩
theorem r_cv (hC : zC G X cc nL own ret) {y : MethodName} {bytes : ByteArray} {maxL n idx c ci : Nat} {yr : Option FieldType} {rm : Room} {As rest : List Value} {v : Option Value} {w : zS} {fs : List zF}
    (hM : zM l ds y bytes maxL yr rm G (.ref (G.1 c) :: As) u v w) (hY : zYv y bytes maxL yr n ci) (hL : Cond.methodLink own idx y ∈ tblG) (hr : ds[c]? = some (.inl (ci, fs))) (hR : zRm rm R maxL) (hn : As.length = n) (hst : st = As.reverse ++ .ref (G.1 c) :: rest) (hw : (rest.map fun v => v.category).sum ≤ 8) (hd : decode cc pc = .ok (.invokevirtual idx, 3)) (kk : zW ds l R G X K w (pc + 3) lv (v.toList ++ rest)) : zW ds l R G X K u pc lv st := by
  obtain ⟨y1, y2, y3, y4, y5, y6⟩ := hY
  obtain ⟨r1, r2, r3, r4⟩ := hR
  intro H locs ls h1 h2 h3 h4
  obtain ⟨q, hq1, hq2⟩ : ∃ q, vwCl[ci]? = some q ∧ q.1 = y.cls := by
    cases hq : vwCl[ci]? with
    | none => rw [hq] at y6; cases y6
    | some q => rw [hq] at y6; exact ⟨q, rfl, Option.some.inj y6⟩
  have hrecv := va_recv hC.2.2.2.2.2.1 h1 hq1 (zpic_get (G := G) (u := u) hr)
  rw [hq2] at hrecv
  refine z_after hC h2 h3 h4 (va_runV (C := y.cls) (As := As) (rest := rest) (cc := cc) (nL := nL) (own := own) (Ts := tblG) (bytes := bytes) (maxL := maxL) (ret := yr) (n := n) (index := idx) (b := G.1 c) ⟨hC.1, hC.2.1, hC.2.2.1, hC.2.2.2.1, hC.2.2.2.2.1⟩ (hM H.size) ⟨callB_of (ws' := tblG) n hC.2.2.2.2.1 (tblG_in y1) rfl r3 r4 (hC.2.2.2.2.1 _ y4) (hC.2.2.2.2.1 _ hL) y5 ⟨r1, r2⟩, hC.2.2.2.2.1 _ y2, hC.2.2.2.2.1 _ y3⟩ ⟨zPre_blind, hrecv, fun U hU hW => zPre_at hC h1 h2 U hU hW⟩ rfl hn (h4.1.trans hC.2.2.1) hst (lv_room hw) hd ⟨Nat.zero_le _, Nat.zero_le _⟩) kk
theorem r_cs (hC : zC G X cc nL own ret) {y : MethodName} {bytes : ByteArray} {maxL n idx : Nat} {yr : Option FieldType} {rm : Room} {As rest : List Value} {v : Option Value} {w : zS}
    (hM : zM l ds y bytes maxL yr rm G As u v w) (hY : zYs y bytes maxL yr n) (hL : Cond.methodLink own idx y ∈ tblG) (hR : zRm rm R maxL) (hn : As.length = n) (hst : st = As.reverse ++ rest) (hw : (rest.map fun v => v.category).sum ≤ 8) (hd : decode cc pc = .ok (.invokestatic idx, 3)) (kk : zW ds l R G X K w (pc + 3) lv (v.toList ++ rest)) : zW ds l R G X K u pc lv st := by
  obtain ⟨y1, y2, y3, y5⟩ := hY
  obtain ⟨r1, r2, r3, r4⟩ := hR
  intro H locs ls h1 h2 h3 h4
  refine z_after hC h2 h3 h4 (va_runS (As := As) (rest := rest) (cc := cc) (nL := nL) (own := own) (Ts := tblG) (bytes := bytes) (maxL := maxL) (ret := yr) (n := n) (index := idx) ⟨hC.1, hC.2.1, hC.2.2.1, hC.2.2.2.1, hC.2.2.2.2.1⟩ (hM H.size) ⟨callB_of (ws' := tblG) n hC.2.2.2.2.1 (tblG_in y1) rfl r3 r4 (hC.2.2.2.2.1 _ y3) (hC.2.2.2.2.1 _ hL) y5 ⟨r1, r2⟩, hC.2.2.2.2.1 _ y2⟩ ⟨zPre_blind, fun U hU hW => zPre_at hC h1 h2 U hU hW⟩ rfl hn (h4.1.trans hC.2.2.1) hst (lv_room hw) hd ⟨Nat.zero_le _, Nat.zero_le _⟩) kk
theorem r_csn (hC : zC G X cc nL own ret) {y : MethodName} {bytes : ByteArray} {maxL n idx : Nat} {yr : Option FieldType} {rm : Room} {As rest : List Value} {v : Option Value} {w : zS} {host : String}
    (hM : zM l ds y bytes maxL yr rm G As u v w) (hY : zYs y bytes maxL yr n) (hL : Cond.methodLinkNest own idx y host ∈ zNst) (hR : zRm rm R maxL) (hn : As.length = n) (hst : st = As.reverse ++ rest) (hw : (rest.map fun v => v.category).sum ≤ 8) (hd : decode cc pc = .ok (.invokestatic idx, 3)) (kk : zW ds l R G X K w (pc + 3) lv (v.toList ++ rest)) : zW ds l R G X K u pc lv st := by
  obtain ⟨y1, y2, y3, y5⟩ := hY
  obtain ⟨r1, r2, r3, r4⟩ := hR
  intro H locs ls h1 h2 h3 h4
  refine z_after hC h2 h3 h4 (va_runSN (As := As) (rest := rest) (cc := cc) (nL := nL) (own := own) (Ts := tblG) (bytes := bytes) (maxL := maxL) (ret := yr) (n := n) (index := idx) (host := host) ⟨hC.1, hC.2.1, hC.2.2.1, hC.2.2.2.1, hC.2.2.2.2.1⟩ (hM H.size) ⟨va_cnB (ws' := tblG) n hC.2.2.2.2.1 (tblG_in y1) rfl r3 r4 (hC.2.2.2.2.2.2.2.2.2 _ hL) (hC.2.2.2.2.1 _ y3) y5 ⟨r1, r2⟩, hC.2.2.2.2.1 _ y2, trivial⟩ ⟨zPre_blind, fun U hU hW => zPre_at hC h1 h2 U hU hW⟩ rfl hn (h4.1.trans hC.2.2.1) hst (lv_room hw) hd ⟨Nat.zero_le _, Nat.zero_le _⟩) kk
end
/-! Option: a guard, a bind -/
def og {α : Type} (c : Bool) (x : Option α) : Option α := if c = true then x else none
def ob {α β : Type} (x : Option α) (f : α → Option β) : Option β := match x with
  | none => none
  | some a => f a
def inB (i : Int32) (n : Nat) : Bool := !(decide (i < 0)) && decide (i.toNatClampNeg < n)
def neB (y : Int32) : Bool := !(decide (y = 0))
def neL (y : Int64) : Bool := !(decide (y = 0))
def zzB (v : Int32) : Bool := decide (v = 0) || decide (v = 1)
def cpB (sp dp n : Int32) (n0 n1 : Nat) : Bool := !(decide (sp < 0)) && !(decide (dp < 0)) && !(decide (n < 0)) && decide (sp.toNatClampNeg + n.toNatClampNeg ≤ n0) && decide (dp.toNatClampNeg + n.toNatClampNeg ≤ n1)
theorem og_some {α : Type} {c : Bool} {x : Option α} {y : α} (h : og c x = some y) : c = true ∧ x = some y := by
  unfold og at h
  split at h
  · exact ⟨‹_›, h⟩
  · cases h
theorem ob_some {α β : Type} {x : Option α} {f : α → Option β} {y : β} (h : ob x f = some y) : ∃ a, x = some a ∧ f a = some y := by
  cases x with
  | none => cases h
  | some a => exact ⟨a, rfl, h⟩
theorem inB_in {i : Int32} {n : Nat} (h : inB i n = true) : vp_in i n := by
  simp only [inB, Bool.and_eq_true, Bool.not_eq_true', decide_eq_false_iff_not, decide_eq_true_eq] at h
  intro q
  rcases q with q | q
  · exact h.1 q
  · exact absurd h.2 (Nat.not_lt.mpr q)
theorem og_in {α : Type} {i : Int32} {n : Nat} {x : Option α} {y : α} (h : og (inB i n) x = some y) : vp_in i n ∧ x = some y := ⟨inB_in (og_some h).1, (og_some h).2⟩
theorem og_ne {α : Type} {i : Int32} {x : Option α} {y : α} (h : og (neB i) x = some y) : ¬ i = 0 ∧ x = some y := ⟨by simpa [neB] using (og_some h).1, (og_some h).2⟩
theorem og_nl {α : Type} {i : Int64} {x : Option α} {y : α} (h : og (neL i) x = some y) : ¬ i = 0 ∧ x = some y := ⟨by simpa [neL] using (og_some h).1, (og_some h).2⟩
theorem zz_nar {v : Int32} (h : v = 0 ∨ v = 1) : narrow .boolean (.int v) = .int v := by rcases h with rfl | rfl <;> rfl
theorem og_zz {α : Type} {v : Int32} {x : Option α} {y : α} (h : og (zzB v) x = some y) : narrow .boolean (.int v) = .int v ∧ x = some y := ⟨zz_nar (by simpa [zzB] using (og_some h).1), (og_some h).2⟩
theorem og_cp {α : Type} {sp dp n : Int32} {n0 n1 : Nat} {x : Option α} {y : α} (h : og (cpB sp dp n n0 n1) x = some y) : cpOk sp dp n n0 n1 ∧ x = some y := ⟨by
  have := (og_some h).1
  simp only [cpB, Bool.and_eq_true, Bool.not_eq_true', decide_eq_false_iff_not, decide_eq_true_eq] at this
  exact ⟨this.1.1.1.1, this.1.1.1.2, this.1.1.2, this.1.2, this.2⟩, (og_some h).2⟩
theorem tbl1 {w : Cond} (i : Nat) (h : tables_1[i]? = some w) (g : goodWord w = true) : w ∈ tblG := tbl_mem (List.mem_append_right _ (List.mem_of_getElem? h)) g


section CBR
variable {w : cb_Wd} {g : cb_Geo} {γ : cb_Gam} {own : String} {cc : ByteArray} {nL : Nat} {ret : Option FieldType} {dp : Nat} {l : Launch} {Qc : Array Value → State → Outcome → State → Prop} {M : cb_Mem} {pc : Nat} {lv lv' : List (Nat × Value)} {st : List Value}
theorem cj_iconst (hC : cb_C w g γ own cc nL ret dp l Qc) {n : Int} {v : Int32} (d : decode cc pc = .ok (.iconst n, 1)) (hv : Int32.ofInt n = v) (k : cb_J w g γ nL M (pc + 1) lv (.int v :: st)) : cb_J w g γ nL M pc lv st := fun H locs ls hP hS hl => lv_iconst hC.1 hC.2.1 d hv (k H locs ls hP hS hl)
theorem cj_bipush (hC : cb_C w g γ own cc nL ret dp l Qc) {n : Int} {v : Int32} (d : decode cc pc = .ok (.bipush n, 2)) (hv : (Int8.ofInt n).toInt32 = v) (k : cb_J w g γ nL M (pc + 2) lv (.int v :: st)) : cb_J w g γ nL M pc lv st := fun H locs ls hP hS hl => lv_bipush hC.1 hC.2.1 d hv (k H locs ls hP hS hl)
theorem cj_sipush (hC : cb_C w g γ own cc nL ret dp l Qc) {n : Int} {v : Int32} (d : decode cc pc = .ok (.sipush n, 3)) (hv : (Int16.ofInt n).toInt32 = v) (k : cb_J w g γ nL M (pc + 3) lv (.int v :: st)) : cb_J w g γ nL M pc lv st := fun H locs ls hP hS hl => lv_sipush hC.1 hC.2.1 d hv (k H locs ls hP hS hl)
theorem cj_lconst (hC : cb_C w g γ own cc nL ret dp l Qc) {n : Fin 2} {v : Int64} (d : decode cc pc = .ok (.lconst n, 1)) (hv : Int64.ofNat (n : Nat) = v) (k : cb_J w g γ nL M (pc + 1) lv (.long v :: st)) : cb_J w g γ nL M pc lv st := fun H locs ls hP hS hl => lv_lconst hC.1 hC.2.1 d hv (k H locs ls hP hS hl)
theorem cj_iload_n (hC : cb_C w g γ own cc nL ret dp l Qc) {f : Fin 4} {i : Nat} {x : Int32} (d : decode cc pc = .ok (.iload_n f, 1)) (hi : (f : Nat) = i) (q : Nat) (hq : lv[q]? = some (i, .int x)) (k : cb_J w g γ nL M (pc + 1) lv (.int x :: st)) : cb_J w g γ nL M pc lv st := fun H locs ls hP hS hl => lv_iload_n hC.1 hC.2.1 d hi (lv_at hl q hq) (k H locs ls hP hS hl)
theorem cj_iload (hC : cb_C w g γ own cc nL ret dp l Qc) {i : Nat} {x : Int32} (d : decode cc pc = .ok (.iload i, 2)) (q : Nat) (hq : lv[q]? = some (i, .int x)) (k : cb_J w g γ nL M (pc + 2) lv (.int x :: st)) : cb_J w g γ nL M pc lv st := fun H locs ls hP hS hl => lv_iload hC.1 hC.2.1 d (lv_at hl q hq) (k H locs ls hP hS hl)
theorem cj_istore_n (hC : cb_C w g γ own cc nL ret dp l Qc) {f : Fin 4} {i : Nat} {x : Int32} (d : decode cc pc = .ok (.istore_n f, 1)) (hi : (f : Nat) = i) (hn : i < nL) (hl' : (i, Value.int x) :: lv.filter (fun q => !(q.1 == i) && !(q.1 + 1 == i && q.2.category == 2)) = lv') (k : cb_J w g γ nL M (pc + 1) lv' st) : cb_J w g γ nL M pc lv (.int x :: st) := fun H locs ls hP hS hl => lv_istore_n hC.1 hC.2.1 d hi hl hn hl' (fun ls' h => k H locs ls' hP hS h)
theorem cj_istore (hC : cb_C w g γ own cc nL ret dp l Qc) {i : Nat} {x : Int32} (d : decode cc pc = .ok (.istore i, 2)) (hn : i < nL) (hl' : (i, Value.int x) :: lv.filter (fun q => !(q.1 == i) && !(q.1 + 1 == i && q.2.category == 2)) = lv') (k : cb_J w g γ nL M (pc + 2) lv' st) : cb_J w g γ nL M pc lv (.int x :: st) := fun H locs ls hP hS hl => lv_istore hC.1 hC.2.1 d hl hn hl' (fun ls' h => k H locs ls' hP hS h)
theorem cj_lload_n (hC : cb_C w g γ own cc nL ret dp l Qc) {f : Fin 4} {i : Nat} {x : Int64} (d : decode cc pc = .ok (.lload_n f, 1)) (hi : (f : Nat) = i) (q : Nat) (hq : lv[q]? = some (i, .long x)) (k : cb_J w g γ nL M (pc + 1) lv (.long x :: st)) : cb_J w g γ nL M pc lv st := fun H locs ls hP hS hl => lv_lload_n hC.1 hC.2.1 d hi (lv_at hl q hq) (k H locs ls hP hS hl)
theorem cj_lload (hC : cb_C w g γ own cc nL ret dp l Qc) {i : Nat} {x : Int64} (d : decode cc pc = .ok (.lload i, 2)) (q : Nat) (hq : lv[q]? = some (i, .long x)) (k : cb_J w g γ nL M (pc + 2) lv (.long x :: st)) : cb_J w g γ nL M pc lv st := fun H locs ls hP hS hl => lv_lload hC.1 hC.2.1 d (lv_at hl q hq) (k H locs ls hP hS hl)
theorem cj_lstore_n (hC : cb_C w g γ own cc nL ret dp l Qc) {f : Fin 4} {i : Nat} {x : Int64} (d : decode cc pc = .ok (.lstore_n f, 1)) (hi : (f : Nat) = i) (hn : i + 1 < nL) (hl' : (i, Value.long x) :: lv.filter (fun q => !(q.1 == i) && (!(q.1 == i + 1) && !(q.1 + 1 == i && q.2.category == 2))) = lv') (k : cb_J w g γ nL M (pc + 1) lv' st) : cb_J w g γ nL M pc lv (.long x :: st) := fun H locs ls hP hS hl => lv_lstore_n hC.1 hC.2.1 d hi hl hn hl' (fun ls' h => k H locs ls' hP hS h)
theorem cj_lstore (hC : cb_C w g γ own cc nL ret dp l Qc) {i : Nat} {x : Int64} (d : decode cc pc = .ok (.lstore i, 2)) (hn : i + 1 < nL) (hl' : (i, Value.long x) :: lv.filter (fun q => !(q.1 == i) && (!(q.1 == i + 1) && !(q.1 + 1 == i && q.2.category == 2))) = lv') (k : cb_J w g γ nL M (pc + 2) lv' st) : cb_J w g γ nL M pc lv (.long x :: st) := fun H locs ls hP hS hl => lv_lstore hC.1 hC.2.1 d hl hn hl' (fun ls' h => k H locs ls' hP hS h)
theorem cj_aload_n (hC : cb_C w g γ own cc nL ret dp l Qc) {f : Fin 4} {i : Nat} {x : Nat} (d : decode cc pc = .ok (.aload_n f, 1)) (hi : (f : Nat) = i) (q : Nat) (hq : lv[q]? = some (i, .ref x)) (k : cb_J w g γ nL M (pc + 1) lv (.ref x :: st)) : cb_J w g γ nL M pc lv st := fun H locs ls hP hS hl => lv_aload_n hC.1 hC.2.1 d hi (lv_at hl q hq) (k H locs ls hP hS hl)
theorem cj_aload (hC : cb_C w g γ own cc nL ret dp l Qc) {i : Nat} {x : Nat} (d : decode cc pc = .ok (.aload i, 2)) (q : Nat) (hq : lv[q]? = some (i, .ref x)) (k : cb_J w g γ nL M (pc + 2) lv (.ref x :: st)) : cb_J w g γ nL M pc lv st := fun H locs ls hP hS hl => lv_aload hC.1 hC.2.1 d (lv_at hl q hq) (k H locs ls hP hS hl)
theorem cj_astore_n (hC : cb_C w g γ own cc nL ret dp l Qc) {f : Fin 4} {i : Nat} {x : Nat} (d : decode cc pc = .ok (.astore_n f, 1)) (hi : (f : Nat) = i) (hn : i < nL) (hl' : (i, Value.ref x) :: lv.filter (fun q => !(q.1 == i) && !(q.1 + 1 == i && q.2.category == 2)) = lv') (k : cb_J w g γ nL M (pc + 1) lv' st) : cb_J w g γ nL M pc lv (.ref x :: st) := fun H locs ls hP hS hl => lv_astore_n hC.1 hC.2.1 d hi hl hn hl' (fun ls' h => k H locs ls' hP hS h)
theorem cj_astore (hC : cb_C w g γ own cc nL ret dp l Qc) {i : Nat} {x : Nat} (d : decode cc pc = .ok (.astore i, 2)) (hn : i < nL) (hl' : (i, Value.ref x) :: lv.filter (fun q => !(q.1 == i) && !(q.1 + 1 == i && q.2.category == 2)) = lv') (k : cb_J w g γ nL M (pc + 2) lv' st) : cb_J w g γ nL M pc lv (.ref x :: st) := fun H locs ls hP hS hl => lv_astore hC.1 hC.2.1 d hl hn hl' (fun ls' h => k H locs ls' hP hS h)
theorem cj_iinc (hC : cb_C w g γ own cc nL ret dp l Qc) {i q : Nat} {n : Int} {x v : Int32} (d : decode cc pc = .ok (.iinc i n, 3)) (hq : lv[q]? = some (i, .int x)) (hv : x + Int32.ofInt n = v) (hn : i < nL) (hl' : (i, Value.int v) :: lv.filter (fun q => !(q.1 == i) && !(q.1 + 1 == i && q.2.category == 2)) = lv') (k : cb_J w g γ nL M (pc + 3) lv' st) : cb_J w g γ nL M pc lv st := fun H locs ls hP hS hl => lv_iinc hC.1 hC.2.1 d hl hq hv hn hl' (fun ls' h => k H locs ls' hP hS h)
theorem cj_pick (ks : List Nat) (h : lv_pick lv ks = lv') (k : cb_J w g γ nL M pc lv' st) : cb_J w g γ nL M pc lv st := fun H locs ls hP hS hl => k H locs ls hP hS (lv_sub hl ks h)
theorem cj_iadd (hC : cb_C w g γ own cc nL ret dp l Qc) {x y : Int32} (d : decode cc pc = .ok (.iadd, 1))  (k : cb_J w g γ nL M (pc + 1) lv (.int (x + y) :: st)) : cb_J w g γ nL M pc lv (.int y :: .int x :: st) := fun H locs ls hP hS hl => lv_iadd hC.1 hC.2.1 d  (k H locs ls hP hS hl)
theorem cj_isub (hC : cb_C w g γ own cc nL ret dp l Qc) {x y : Int32} (d : decode cc pc = .ok (.isub, 1))  (k : cb_J w g γ nL M (pc + 1) lv (.int (x - y) :: st)) : cb_J w g γ nL M pc lv (.int y :: .int x :: st) := fun H locs ls hP hS hl => lv_isub hC.1 hC.2.1 d  (k H locs ls hP hS hl)
theorem cj_imul (hC : cb_C w g γ own cc nL ret dp l Qc) {x y : Int32} (d : decode cc pc = .ok (.imul, 1))  (k : cb_J w g γ nL M (pc + 1) lv (.int (x * y) :: st)) : cb_J w g γ nL M pc lv (.int y :: .int x :: st) := fun H locs ls hP hS hl => lv_imul hC.1 hC.2.1 d  (k H locs ls hP hS hl)
theorem cj_iand (hC : cb_C w g γ own cc nL ret dp l Qc) {x y : Int32} (d : decode cc pc = .ok (.iand, 1))  (k : cb_J w g γ nL M (pc + 1) lv (.int (x &&& y) :: st)) : cb_J w g γ nL M pc lv (.int y :: .int x :: st) := fun H locs ls hP hS hl => lv_iand hC.1 hC.2.1 d  (k H locs ls hP hS hl)
theorem cj_ior (hC : cb_C w g γ own cc nL ret dp l Qc) {x y : Int32} (d : decode cc pc = .ok (.ior, 1))  (k : cb_J w g γ nL M (pc + 1) lv (.int (x ||| y) :: st)) : cb_J w g γ nL M pc lv (.int y :: .int x :: st) := fun H locs ls hP hS hl => lv_ior hC.1 hC.2.1 d  (k H locs ls hP hS hl)
theorem cj_ixor (hC : cb_C w g γ own cc nL ret dp l Qc) {x y : Int32} (d : decode cc pc = .ok (.ixor, 1))  (k : cb_J w g γ nL M (pc + 1) lv (.int (x ^^^ y) :: st)) : cb_J w g γ nL M pc lv (.int y :: .int x :: st) := fun H locs ls hP hS hl => lv_ixor hC.1 hC.2.1 d  (k H locs ls hP hS hl)
theorem cj_ishl (hC : cb_C w g γ own cc nL ret dp l Qc) {x y : Int32} (d : decode cc pc = .ok (.ishl, 1))  (k : cb_J w g γ nL M (pc + 1) lv (.int (x <<< (y &&& 31)) :: st)) : cb_J w g γ nL M pc lv (.int y :: .int x :: st) := fun H locs ls hP hS hl => lv_ishl hC.1 hC.2.1 d  (k H locs ls hP hS hl)
theorem cj_ishr (hC : cb_C w g γ own cc nL ret dp l Qc) {x y : Int32} (d : decode cc pc = .ok (.ishr, 1))  (k : cb_J w g γ nL M (pc + 1) lv (.int (x >>> (y &&& 31)) :: st)) : cb_J w g γ nL M pc lv (.int y :: .int x :: st) := fun H locs ls hP hS hl => lv_ishr hC.1 hC.2.1 d  (k H locs ls hP hS hl)
theorem cj_ladd (hC : cb_C w g γ own cc nL ret dp l Qc) {x y : Int64} (d : decode cc pc = .ok (.ladd, 1))  (k : cb_J w g γ nL M (pc + 1) lv (.long (x + y) :: st)) : cb_J w g γ nL M pc lv (.long y :: .long x :: st) := fun H locs ls hP hS hl => lv_ladd hC.1 hC.2.1 d  (k H locs ls hP hS hl)
theorem cj_lsub (hC : cb_C w g γ own cc nL ret dp l Qc) {x y : Int64} (d : decode cc pc = .ok (.lsub, 1))  (k : cb_J w g γ nL M (pc + 1) lv (.long (x - y) :: st)) : cb_J w g γ nL M pc lv (.long y :: .long x :: st) := fun H locs ls hP hS hl => lv_lsub hC.1 hC.2.1 d  (k H locs ls hP hS hl)
theorem cj_lmul (hC : cb_C w g γ own cc nL ret dp l Qc) {x y : Int64} (d : decode cc pc = .ok (.lmul, 1))  (k : cb_J w g γ nL M (pc + 1) lv (.long (x * y) :: st)) : cb_J w g γ nL M pc lv (.long y :: .long x :: st) := fun H locs ls hP hS hl => lv_lmul hC.1 hC.2.1 d  (k H locs ls hP hS hl)
theorem cj_land (hC : cb_C w g γ own cc nL ret dp l Qc) {x y : Int64} (d : decode cc pc = .ok (.land, 1))  (k : cb_J w g γ nL M (pc + 1) lv (.long (x &&& y) :: st)) : cb_J w g γ nL M pc lv (.long y :: .long x :: st) := fun H locs ls hP hS hl => lv_land hC.1 hC.2.1 d  (k H locs ls hP hS hl)
theorem cj_idiv (hC : cb_C w g γ own cc nL ret dp l Qc) {x y : Int32} (d : decode cc pc = .ok (.idiv, 1)) (hne : ¬ y = 0) (k : cb_J w g γ nL M (pc + 1) lv (.int (x / y) :: st)) : cb_J w g γ nL M pc lv (.int y :: .int x :: st) := fun H locs ls hP hS hl => lv_idiv hC.1 hC.2.1 d hne (k H locs ls hP hS hl)
theorem cj_irem (hC : cb_C w g γ own cc nL ret dp l Qc) {x y : Int32} (d : decode cc pc = .ok (.irem, 1)) (hne : ¬ y = 0) (k : cb_J w g γ nL M (pc + 1) lv (.int (x - x / y * y) :: st)) : cb_J w g γ nL M pc lv (.int y :: .int x :: st) := fun H locs ls hP hS hl => lv_irem hC.1 hC.2.1 d hne (k H locs ls hP hS hl)
theorem cj_ldiv (hC : cb_C w g γ own cc nL ret dp l Qc) {x y : Int64} (d : decode cc pc = .ok (.ldiv, 1)) (hne : ¬ y = 0) (k : cb_J w g γ nL M (pc + 1) lv (.long (x / y) :: st)) : cb_J w g γ nL M pc lv (.long y :: .long x :: st) := fun H locs ls hP hS hl => lv_ldiv hC.1 hC.2.1 d hne (k H locs ls hP hS hl)
theorem cj_lrem (hC : cb_C w g γ own cc nL ret dp l Qc) {x y : Int64} (d : decode cc pc = .ok (.lrem, 1)) (hne : ¬ y = 0) (k : cb_J w g γ nL M (pc + 1) lv (.long (x - x / y * y) :: st)) : cb_J w g γ nL M pc lv (.long y :: .long x :: st) := fun H locs ls hP hS hl => lv_lrem hC.1 hC.2.1 d hne (k H locs ls hP hS hl)
theorem cj_i2l (hC : cb_C w g γ own cc nL ret dp l Qc) {x : Int32} (d : decode cc pc = .ok (.i2l, 1))  (k : cb_J w g γ nL M (pc + 1) lv (.long (x.toInt64) :: st)) : cb_J w g γ nL M pc lv (.int x :: st) := fun H locs ls hP hS hl => lv_i2l hC.1 hC.2.1 d rfl (k H locs ls hP hS hl)
theorem cj_l2i (hC : cb_C w g γ own cc nL ret dp l Qc) {x : Int64} (d : decode cc pc = .ok (.l2i, 1))  (k : cb_J w g γ nL M (pc + 1) lv (.int (x.toInt32) :: st)) : cb_J w g γ nL M pc lv (.long x :: st) := fun H locs ls hP hS hl => lv_l2i hC.1 hC.2.1 d rfl (k H locs ls hP hS hl)
theorem cj_i2b (hC : cb_C w g γ own cc nL ret dp l Qc) {x : Int32} (d : decode cc pc = .ok (.i2b, 1))  (k : cb_J w g γ nL M (pc + 1) lv (.int (x.toInt8.toInt32) :: st)) : cb_J w g γ nL M pc lv (.int x :: st) := fun H locs ls hP hS hl => lv_i2b hC.1 hC.2.1 d rfl (k H locs ls hP hS hl)
theorem cj_i2s (hC : cb_C w g γ own cc nL ret dp l Qc) {x : Int32} (d : decode cc pc = .ok (.i2s, 1))  (k : cb_J w g γ nL M (pc + 1) lv (.int (x.toInt16.toInt32) :: st)) : cb_J w g γ nL M pc lv (.int x :: st) := fun H locs ls hP hS hl => lv_i2s hC.1 hC.2.1 d rfl (k H locs ls hP hS hl)
theorem cj_i2c (hC : cb_C w g γ own cc nL ret dp l Qc) {x : Int32} (d : decode cc pc = .ok (.i2c, 1))  (k : cb_J w g γ nL M (pc + 1) lv (.int ((x.toUInt32 % 65536).toInt32) :: st)) : cb_J w g γ nL M pc lv (.int x :: st) := fun H locs ls hP hS hl => lv_i2c hC.1 hC.2.1 d rfl (k H locs ls hP hS hl)
theorem cj_iushr (hC : cb_C w g γ own cc nL ret dp l Qc) {x y : Int32} (d : decode cc pc = .ok (.iushr, 1))  (k : cb_J w g γ nL M (pc + 1) lv (.int ((x.toUInt32 >>> (y.toUInt32 &&& Int32.toUInt32 31)).toInt32) :: st)) : cb_J w g γ nL M pc lv (.int y :: .int x :: st) := fun H locs ls hP hS hl => lv_iushr hC.1 hC.2.1 d rfl (k H locs ls hP hS hl)
theorem cj_lshl (hC : cb_C w g γ own cc nL ret dp l Qc) {x : Int64} {y : Int32} (d : decode cc pc = .ok (.lshl, 1))  (k : cb_J w g γ nL M (pc + 1) lv (.long (x <<< (y.toInt64 &&& 63)) :: st)) : cb_J w g γ nL M pc lv (.int y :: .long x :: st) := fun H locs ls hP hS hl => lv_lshl hC.1 hC.2.1 d rfl (k H locs ls hP hS hl)
theorem cj_lshr (hC : cb_C w g γ own cc nL ret dp l Qc) {x : Int64} {y : Int32} (d : decode cc pc = .ok (.lshr, 1))  (k : cb_J w g γ nL M (pc + 1) lv (.long (x >>> (y.toInt64 &&& 63)) :: st)) : cb_J w g γ nL M pc lv (.int y :: .long x :: st) := fun H locs ls hP hS hl => lv_lshr hC.1 hC.2.1 d rfl (k H locs ls hP hS hl)
theorem cj_lcmp (hC : cb_C w g γ own cc nL ret dp l Qc) {x y : Int64} (d : decode cc pc = .ok (.lcmp, 1))  (k : cb_J w g γ nL M (pc + 1) lv (.int (lg_cmp x y) :: st)) : cb_J w g γ nL M pc lv (.long y :: .long x :: st) := fun H locs ls hP hS hl => W.lcmp hC.1 hC.2.1 d  (k H locs ls hP hS hl)
theorem cj_dup (hC : cb_C w g γ own cc nL ret dp l Qc) {va : Value} (d : decode cc pc = .ok (.dup, 1)) (hv : va.category = 1) (k : cb_J w g γ nL M (pc + 1) lv (va :: va :: st)) : cb_J w g γ nL M pc lv (va :: st) := fun H locs ls hP hS hl => lv_dup hC.1 hC.2.1 d hv (k H locs ls hP hS hl)
theorem cj_pop (hC : cb_C w g γ own cc nL ret dp l Qc) {va : Value} (d : decode cc pc = .ok (.pop, 1)) (hv : va.category = 1) (k : cb_J w g γ nL M (pc + 1) lv st) : cb_J w g γ nL M pc lv (va :: st) := fun H locs ls hP hS hl => lv_pop hC.1 hC.2.1 d hv (k H locs ls hP hS hl)
theorem cj_dup2 (hC : cb_C w g γ own cc nL ret dp l Qc) {va vb : Value} (d : decode cc pc = .ok (.dup2, 1)) (hv : va.category = 1) (hv2 : vb.category = 1) (k : cb_J w g γ nL M (pc + 1) lv (va :: vb :: va :: vb :: st)) : cb_J w g γ nL M pc lv (va :: vb :: st) := fun H locs ls hP hS hl => lv_dup2_11 hC.1 hC.2.1 d hv hv2 (k H locs ls hP hS hl)
theorem cj_dup_x1 (hC : cb_C w g γ own cc nL ret dp l Qc) {va vb : Value} (d : decode cc pc = .ok (.dup_x1, 1)) (hv : va.category = 1) (hv2 : vb.category = 1) (k : cb_J w g γ nL M (pc + 1) lv (va :: vb :: va :: st)) : cb_J w g γ nL M pc lv (va :: vb :: st) := fun H locs ls hP hS hl => lv_dup_x1 hC.1 hC.2.1 d hv hv2 (k H locs ls hP hS hl)
theorem cj_if_eq (hC : cb_C w g γ own cc nL ret dp l Qc) {x : Int32} {off : Int} {tgt : Nat} (d : decode cc pc = .ok (.ifCond .eq off, 3)) (ht : (pc : Int) + off = (tgt : Int)) (kt : x = 0 → cb_J w g γ nL M tgt lv st) (kf : ¬ x = 0 → cb_J w g γ nL M (pc + 3) lv st) : cb_J w g γ nL M pc lv (.int x :: st) := fun H locs ls hP hS hl => lv_if_eq hC.1 hC.2.1 d ht (fun h => kt h H locs ls hP hS hl) (fun h => kf h H locs ls hP hS hl)
theorem cj_if_ne (hC : cb_C w g γ own cc nL ret dp l Qc) {x : Int32} {off : Int} {tgt : Nat} (d : decode cc pc = .ok (.ifCond .ne off, 3)) (ht : (pc : Int) + off = (tgt : Int)) (kt : ¬ x = 0 → cb_J w g γ nL M tgt lv st) (kf : x = 0 → cb_J w g γ nL M (pc + 3) lv st) : cb_J w g γ nL M pc lv (.int x :: st) := fun H locs ls hP hS hl => lv_if_ne hC.1 hC.2.1 d ht (fun h => kt h H locs ls hP hS hl) (fun h => kf h H locs ls hP hS hl)
theorem cj_if_lt (hC : cb_C w g γ own cc nL ret dp l Qc) {x : Int32} {off : Int} {tgt : Nat} (d : decode cc pc = .ok (.ifCond .lt off, 3)) (ht : (pc : Int) + off = (tgt : Int)) (kt : x < 0 → cb_J w g γ nL M tgt lv st) (kf : ¬ x < 0 → cb_J w g γ nL M (pc + 3) lv st) : cb_J w g γ nL M pc lv (.int x :: st) := fun H locs ls hP hS hl => lv_if_lt hC.1 hC.2.1 d ht (fun h => kt h H locs ls hP hS hl) (fun h => kf h H locs ls hP hS hl)
theorem cj_if_ge (hC : cb_C w g γ own cc nL ret dp l Qc) {x : Int32} {off : Int} {tgt : Nat} (d : decode cc pc = .ok (.ifCond .ge off, 3)) (ht : (pc : Int) + off = (tgt : Int)) (kt : 0 ≤ x → cb_J w g γ nL M tgt lv st) (kf : ¬ 0 ≤ x → cb_J w g γ nL M (pc + 3) lv st) : cb_J w g γ nL M pc lv (.int x :: st) := fun H locs ls hP hS hl => lv_if_ge hC.1 hC.2.1 d ht (fun h => kt h H locs ls hP hS hl) (fun h => kf h H locs ls hP hS hl)
theorem cj_if_gt (hC : cb_C w g γ own cc nL ret dp l Qc) {x : Int32} {off : Int} {tgt : Nat} (d : decode cc pc = .ok (.ifCond .gt off, 3)) (ht : (pc : Int) + off = (tgt : Int)) (kt : 0 < x → cb_J w g γ nL M tgt lv st) (kf : ¬ 0 < x → cb_J w g γ nL M (pc + 3) lv st) : cb_J w g γ nL M pc lv (.int x :: st) := fun H locs ls hP hS hl => lv_if_gt hC.1 hC.2.1 d ht (fun h => kt h H locs ls hP hS hl) (fun h => kf h H locs ls hP hS hl)
theorem cj_if_le (hC : cb_C w g γ own cc nL ret dp l Qc) {x : Int32} {off : Int} {tgt : Nat} (d : decode cc pc = .ok (.ifCond .le off, 3)) (ht : (pc : Int) + off = (tgt : Int)) (kt : x ≤ 0 → cb_J w g γ nL M tgt lv st) (kf : ¬ x ≤ 0 → cb_J w g γ nL M (pc + 3) lv st) : cb_J w g γ nL M pc lv (.int x :: st) := fun H locs ls hP hS hl => lv_if_le hC.1 hC.2.1 d ht (fun h => kt h H locs ls hP hS hl) (fun h => kf h H locs ls hP hS hl)
theorem cj_icmp_eq (hC : cb_C w g γ own cc nL ret dp l Qc) {x y : Int32} {off : Int} {tgt : Nat} (d : decode cc pc = .ok (.if_icmp .eq off, 3)) (ht : (pc : Int) + off = (tgt : Int)) (kt : x = y → cb_J w g γ nL M tgt lv st) (kf : ¬ x = y → cb_J w g γ nL M (pc + 3) lv st) : cb_J w g γ nL M pc lv (.int y :: .int x :: st) := fun H locs ls hP hS hl => lv_icmp_eq hC.1 hC.2.1 d ht (fun h => kt h H locs ls hP hS hl) (fun h => kf h H locs ls hP hS hl)
theorem cj_icmp_ne (hC : cb_C w g γ own cc nL ret dp l Qc) {x y : Int32} {off : Int} {tgt : Nat} (d : decode cc pc = .ok (.if_icmp .ne off, 3)) (ht : (pc : Int) + off = (tgt : Int)) (kt : ¬ x = y → cb_J w g γ nL M tgt lv st) (kf : x = y → cb_J w g γ nL M (pc + 3) lv st) : cb_J w g γ nL M pc lv (.int y :: .int x :: st) := fun H locs ls hP hS hl => lv_icmp_ne hC.1 hC.2.1 d ht (fun h => kt h H locs ls hP hS hl) (fun h => kf h H locs ls hP hS hl)
theorem cj_icmp_lt (hC : cb_C w g γ own cc nL ret dp l Qc) {x y : Int32} {off : Int} {tgt : Nat} (d : decode cc pc = .ok (.if_icmp .lt off, 3)) (ht : (pc : Int) + off = (tgt : Int)) (kt : x < y → cb_J w g γ nL M tgt lv st) (kf : ¬ x < y → cb_J w g γ nL M (pc + 3) lv st) : cb_J w g γ nL M pc lv (.int y :: .int x :: st) := fun H locs ls hP hS hl => lv_icmp_lt hC.1 hC.2.1 d ht (fun h => kt h H locs ls hP hS hl) (fun h => kf h H locs ls hP hS hl)
theorem cj_icmp_ge (hC : cb_C w g γ own cc nL ret dp l Qc) {x y : Int32} {off : Int} {tgt : Nat} (d : decode cc pc = .ok (.if_icmp .ge off, 3)) (ht : (pc : Int) + off = (tgt : Int)) (kt : y ≤ x → cb_J w g γ nL M tgt lv st) (kf : ¬ y ≤ x → cb_J w g γ nL M (pc + 3) lv st) : cb_J w g γ nL M pc lv (.int y :: .int x :: st) := fun H locs ls hP hS hl => lv_icmp_ge hC.1 hC.2.1 d ht (fun h => kt h H locs ls hP hS hl) (fun h => kf h H locs ls hP hS hl)
theorem cj_icmp_gt (hC : cb_C w g γ own cc nL ret dp l Qc) {x y : Int32} {off : Int} {tgt : Nat} (d : decode cc pc = .ok (.if_icmp .gt off, 3)) (ht : (pc : Int) + off = (tgt : Int)) (kt : y < x → cb_J w g γ nL M tgt lv st) (kf : ¬ y < x → cb_J w g γ nL M (pc + 3) lv st) : cb_J w g γ nL M pc lv (.int y :: .int x :: st) := fun H locs ls hP hS hl => lv_icmp_gt hC.1 hC.2.1 d ht (fun h => kt h H locs ls hP hS hl) (fun h => kf h H locs ls hP hS hl)
theorem cj_icmp_le (hC : cb_C w g γ own cc nL ret dp l Qc) {x y : Int32} {off : Int} {tgt : Nat} (d : decode cc pc = .ok (.if_icmp .le off, 3)) (ht : (pc : Int) + off = (tgt : Int)) (kt : x ≤ y → cb_J w g γ nL M tgt lv st) (kf : ¬ x ≤ y → cb_J w g γ nL M (pc + 3) lv st) : cb_J w g γ nL M pc lv (.int y :: .int x :: st) := fun H locs ls hP hS hl => lv_icmp_le hC.1 hC.2.1 d ht (fun h => kt h H locs ls hP hS hl) (fun h => kf h H locs ls hP hS hl)
theorem cj_goto (hC : cb_C w g γ own cc nL ret dp l Qc) {off : Int} {tgt : Nat} (d : decode cc pc = .ok (.goto off, 3)) (ht : (pc : Int) + off = (tgt : Int)) (k : cb_J w g γ nL M tgt lv st) : cb_J w g γ nL M pc lv st := fun H locs ls hP hS hl => lv_goto hC.1 hC.2.1 d ht (k H locs ls hP hS hl)
theorem cj_ldc (hC : cb_C w g γ own cc nL ret dp l Qc) {i : Nat} {v : Int32} (hw : Cond.constant own i v ∈ cb_ws) (d : decode cc pc = .ok (.ldc i, 2)) (k : cb_J w g γ nL M (pc + 2) lv (.int v :: st)) : cb_J w g γ nL M pc lv st := fun H locs ls hP hS hl => lv_ldc hC.1 hC.2.1 hC.2.2.2.1 (hC.2.2.2.2.1 _ hw) d (k H locs ls hP hS hl)
theorem cj_ldc_w (hC : cb_C w g γ own cc nL ret dp l Qc) {i : Nat} {v : Int32} (hw : Cond.constant own i v ∈ cb_ws) (d : decode cc pc = .ok (.ldc_w i, 3)) (k : cb_J w g γ nL M (pc + 3) lv (.int v :: st)) : cb_J w g γ nL M pc lv st := fun H locs ls hP hS hl => lv_ldcw hC.1 hC.2.1 hC.2.2.2.1 (hC.2.2.2.2.1 _ hw) d (k H locs ls hP hS hl)
theorem cj_ldc2_w (hC : cb_C w g γ own cc nL ret dp l Qc) {i : Nat} {v : Int64} (hw : Cond.constantLong own i v ∈ cb_ws) (d : decode cc pc = .ok (.ldc2_w i, 3)) (k : cb_J w g γ nL M (pc + 3) lv (.long v :: st)) : cb_J w g γ nL M pc lv st := fun H locs ls hP hS hl => lv_ldc2 hC.1 hC.2.1 hC.2.2.2.1 (hC.2.2.2.2.1 _ hw) d (k H locs ls hP hS hl)
theorem cj_tableIn (hC : cb_C w g γ own cc nL ret dp l Qc) {dflt lo hi : Int} {offs : Array Int} {len : Nat} {x : Int32} {off : Int} {tgt : Nat} (d : decode cc pc = .ok (.tableswitch dflt lo hi offs, len)) (h1 : ¬ x.toInt < lo) (h2 : ¬ hi < x.toInt) (ho : offs[(x.toInt - lo).toNat]? = some off) (ht : (pc : Int) + off = (tgt : Int)) (k : cb_J w g γ nL M tgt lv st) : cb_J w g γ nL M pc lv (.int x :: st) := fun H locs ls hP hS hl => lv_tableIn hC.1 hC.2.1 d h1 h2 ho ht (k H locs ls hP hS hl)
theorem cj_tableOut (hC : cb_C w g γ own cc nL ret dp l Qc) {dflt lo hi : Int} {offs : Array Int} {len : Nat} {x : Int32} {tgt : Nat} (d : decode cc pc = .ok (.tableswitch dflt lo hi offs, len)) (h : x.toInt < lo ∨ hi < x.toInt) (ht : (pc : Int) + dflt = (tgt : Int)) (k : cb_J w g γ nL M tgt lv st) : cb_J w g γ nL M pc lv (.int x :: st) := fun H locs ls hP hS hl => lv_tableOut hC.1 hC.2.1 d h ht (k H locs ls hP hS hl)
def cb_FA (own : String) (idx ci j : Nat) : Prop := ∃ (C : String) (T : u_T) (N : Nat), vwCl[ci]? = some (C, T, N) ∧ j < N ∧ (∀ x ∈ u_ws C T N, x ∈ cb_ws) ∧ Cond.fieldLink own idx (T j).1 (T j).2.1 (T j).2.2.1 ∈ cb_ws
def cb_FP (own : String) (idx ci j : Nat) : Prop := ∃ (C : String) (T : u_T) (N : Nat) (ty : Nat → FieldType), vwCl[ci]? = some (C, T, N) ∧ j < N ∧ (∀ x ∈ u_ws C T N, x ∈ cb_ws) ∧ Cond.fieldLink own idx (T j).1 (T j).2.1 (T j).2.2.1 ∈ cb_ws ∧ (∀ k, k < N → parseFieldDescriptor (T k).2.2.1 = some (ty k)) ∧ (∀ a, a < N → ∀ b, b < N → a ≠ b → (T a).2.1 ≠ (T b).2.1) ∧ (T j).2.2.2 = false ∧ parseFieldDescriptor (T j).2.2.1 = some .int
theorem cj_get (hC : cb_C w g γ own cc nL ret dp l Qc) {idx ci j : Nat} (fa : cb_FA own idx ci j) {q : Nat} (hq : q < w.1) {fs : List Value} (hE : w.2.1 g q (M q) = .inr (ci, fs)) {v : Value} (hv : fs[j]? = some v) (d : decode cc pc = .ok (.getfield idx, 3)) (k : cb_J w g γ nL M (pc + 3) lv (v :: st)) : cb_J w g γ nL M pc lv (.ref (g.2.1 q) :: st) := by
  intro H locs ls hP hS hl
  obtain ⟨C, T, N, hc, hj, hin, hlk⟩ := fa
  exact va_get hC.1 hC.2.1 hC.2.2.2.2.1 hin hC.2.2.2.1 hC.2.2.2.2.2.1.1 hP q (by rw [cb_wl_get w g M hq, hE]) hc j hj (hC.2.2.2.2.1 _ hlk) (fun _ h => h) hv d (k H locs ls hP hS hl)
theorem cj_put (hC : cb_C w g γ own cc nL ret dp l Qc) {idx ci j : Nat} (fa : cb_FP own idx ci j) {q : Nat} (hq : q < w.1) {fs : List Value} (hE : w.2.1 g q (M q) = .inr (ci, fs)) {x : Int32} (hE2 : w.2.1 g q (upd (M q) j x) = .inr (ci, fs.set j (.int x))) (hlen : j < fs.length) {M' : cb_Mem} (hM : M' = cb_up M q j x) (d : decode cc pc = .ok (.putfield idx, 3)) (k : cb_J w g γ nL M' (pc + 3) lv st) : cb_J w g γ nL M pc lv (.int x :: .ref (g.2.1 q) :: st) := by
  intro H locs ls hP hS hl
  obtain ⟨C, T, N, ty, hc, hj, hin, hlk, hty, hnm, hfin, hd⟩ := fa
  refine va_put hC.1 hC.2.1 hC.2.2.2.2.1 hin ty hty hnm hC.2.2.2.1 hC.2.2.2.2.2.1.1 hP (cb_wl_D hC.2.2.2.2.2.1.2.2.2) hS q (by rw [cb_wl_get w g M hq, hE]) hc j hj (hC.2.2.2.2.1 _ hlk) (fun _ h => h) hfin hd (vp_nar_int x) rfl hlen d (fun H1 locs1 hP1 _ hS1 => ?_)
  rw [← hE2, cb_wl_set w g M hq] at hP1
  subst hM
  exact k H1 locs1 ls hP1 hS1 hl
theorem cj_iald (hC : cb_C w g γ own cc nL ret dp l Qc) {q n : Nat} (hq : q < w.1) (hE : w.2.1 g q (M q) = .inl (g.2.2.1 0, n, .inl (M q))) (ht : (w.2.2 g)[0]? = some (g.2.2.1 0, .int)) {i : Int32} (hi : vp_in i n) (d : decode cc pc = .ok (.iaload, 1)) (k : cb_J w g γ nL M (pc + 1) lv (.int (M q i.toNatClampNeg) :: st)) : cb_J w g γ nL M pc lv (.int i :: .ref (g.2.1 q) :: st) := fun H locs ls hP hS hl => va_iald hC.1 hC.2.1 hC.2.2.2.2.2.1.1 hP q 0 (by rw [cb_wl_get w g M hq, hE]) ht hi d (k H locs ls hP hS hl)
theorem cj_iast (hC : cb_C w g γ own cc nL ret dp l Qc) {q n : Nat} (hq : q < w.1) (hE : ∀ r, w.2.1 g q r = .inl (g.2.2.1 0, n, .inl r)) (ht : (w.2.2 g)[0]? = some (g.2.2.1 0, .int)) {i x : Int32} (hi : vp_in i n) {M' : cb_Mem} (hM : M' = cb_up M q i.toNatClampNeg x) (d : decode cc pc = .ok (.iastore, 1)) (k : cb_J w g γ nL M' (pc + 1) lv st) : cb_J w g γ nL M pc lv (.int x :: .int i :: .ref (g.2.1 q) :: st) := by
  intro H locs ls hP hS hl
  refine va_iast hC.1 hC.2.1 hC.2.2.2.2.2.1.1 hP (cb_wl_D hC.2.2.2.2.2.1.2.2.2) hS q 0 (by rw [cb_wl_get w g M hq, hE]) ht hi d (fun H1 locs1 hP1 _ hS1 => ?_)
  rw [← hE, cb_wl_set w g M hq] at hP1
  subst hM
  exact k H1 locs1 ls hP1 hS1 hl
theorem cj_alen (hC : cb_C w g γ own cc nL ret dp l Qc) {q n : Nat} (hq : q < w.1) {r : Nat → Int32} (hE : w.2.1 g q (M q) = .inl (g.2.2.1 0, n, .inl r)) (ht : (w.2.2 g)[0]? = some (g.2.2.1 0, .int)) {v : Int32} (hv : Int32.ofNat n = v) (d : decode cc pc = .ok (.arraylength, 1)) (k : cb_J w g γ nL M (pc + 1) lv (.int v :: st)) : cb_J w g γ nL M pc lv (.ref (g.2.1 q) :: st) := fun H locs ls hP hS hl => va_alen hC.1 hC.2.1 hC.2.2.2.2.2.1.1 hP q 0 (by rw [cb_wl_get w g M hq, hE]) ht hv d (k H locs ls hP hS hl)
theorem cj_aald (hC : cb_C w g γ own cc nL ret dp l Qc) {q n t0 : Nat} (hq : q < w.1) {cA : ClassId} {ty : FieldType} {f : Nat → Option Nat} (hE : w.2.1 g q (M q) = .inl (cA, n, .inr (.inr (.inr (.inr f))))) (ht : (w.2.2 g)[t0]? = some (cA, ty)) (hty : ty.isReference = true) {i : Int32} (hi : vp_in i n) {a : Nat} (ha : f i.toNatClampNeg = some a) (d : decode cc pc = .ok (.aaload, 1)) (k : cb_J w g γ nL M (pc + 1) lv (.ref a :: st)) : cb_J w g γ nL M pc lv (.int i :: .ref (g.2.1 q) :: st) := by
  intro H locs ls hP hS hl
  have hlt : i.toNatClampNeg < n := Nat.not_le.mp fun q => hi (Or.inr q)
  have hc := hP q _ (by rw [cb_wl_get w g M hq, hE])
  exact W.aald (v := .ref a) (ty := ty) hC.1 hC.2.1 hc ((hC.2.2.2.2.2.1.1.2 t0 _ ht).1 n (fun j => va_rf (f j))) hty (fun q => by cases q) (by show ¬ (i < 0 ∨ (arrV _ _ _).slots.size ≤ _); rw [arrV_size]; exact hi) (by show (arrV _ _ _).slots[_]? = _; rw [arrV_read _ _ hlt, ha]; rfl) rfl rfl d (k H locs ls hP hS hl)
theorem cj_iret {r : Int32} (hC : cb_C w g γ own cc nL (some .int) dp l (cb_Qi w g r M)) (d : decode cc pc = .ok (.ireturn, 1)) : cb_J w g γ nL M pc lv [.int r] := by
  intro H locs ls hP hS hl
  rw [hC.2.2.2.2.2.2.2.2.2.2]
  have hlocks := hC.2.2.2.2.2.2.2.1
  exact W.iret (v := r) hC.1 hC.2.1 hC.2.2.2.2.2.2.1 (fun t ht hW => ⟨⟨r, (), rfl, rfl, (by show va_P _ _ _ t.heap; rw [ht]; exact hP)⟩, hS.F ht⟩) hS.2.2 d
theorem cj_zret {r : Int32} (hC : cb_C w g γ own cc nL (some .boolean) dp l (cb_Qi w g r M)) (hr : r = 0 ∨ r = 1) (d : decode cc pc = .ok (.ireturn, 1)) : cb_J w g γ nL M pc lv [.int r] := by
  intro H locs ls hP hS hl
  rw [hC.2.2.2.2.2.2.2.2.2.2]
  have hlocks := hC.2.2.2.2.2.2.2.1
  exact W.zret (v := r) hC.1 hC.2.1 hC.2.2.2.2.2.2.1 (by rcases hr with rfl | rfl <;> rfl) (fun t ht hW => ⟨⟨r, (), rfl, rfl, (by show va_P _ _ _ t.heap; rw [ht]; exact hP)⟩, hS.F ht⟩) hS.2.2 d
theorem cj_lret {r : Int64} (hC : cb_C w g γ own cc nL (some .long) dp l (cb_Ql w g r M)) (d : decode cc pc = .ok (.lreturn, 1)) : cb_J w g γ nL M pc lv [.long r] := by
  intro H locs ls hP hS hl
  rw [hC.2.2.2.2.2.2.2.2.2.2]
  have hlocks := hC.2.2.2.2.2.2.2.1
  exact W.lret (v := r) hC.1 hC.2.1 hC.2.2.2.2.2.2.1 (fun t ht hW => ⟨⟨r, (), rfl, rfl, (by show va_P _ _ _ t.heap; rw [ht]; exact hP)⟩, hS.F ht⟩) hS.2.2 d
theorem cj_vret (hC : cb_C w g γ own cc nL none dp l (cb_Qv w g M)) (d : decode cc pc = .ok (.return_, 1)) : cb_J w g γ nL M pc lv [] := by
  intro H locs ls hP hS hl
  rw [hC.2.2.2.2.2.2.2.2.2.2]
  have hlocks := hC.2.2.2.2.2.2.2.1
  exact W.vret hC.1 hC.2.1 hC.2.2.2.2.2.2.1 (fun t ht hW => ⟨⟨(), rfl, trivial, (by show va_P _ _ _ t.heap; rw [ht]; exact hP)⟩, hS.F ht⟩) hS.2.2 d
/-- what a call's place rests on: an instance method, a static one, a static one of a nest mate's -/
def cb_CV (own : String) (idx : Nat) (y : MethodName) (c2 : ByteArray) (n2 : Nat) (ret2 : Option FieldType) (n : Nat) : Prop := Cond.code y c2 n2 ret2 ∈ cb_ws ∧ Cond.methodLink own idx y ∈ cb_ws ∧ Cond.instanceMethod y ∈ cb_ws ∧ Cond.selects y.cls y y ∈ cb_ws ∧ Cond.initialized y.cls ∈ cb_ws ∧ (y.cls ≠ "java/lang/invoke/MethodHandle" ∧ y.cls ≠ "java/lang/invoke/VarHandle" ∧ (parseMethodDescriptor y.desc).map (fun d => d.parameters.length) = some n) ∧ n2 ≤ 19
def cb_CS (own : String) (idx : Nat) (y : MethodName) (c2 : ByteArray) (n2 : Nat) (ret2 : Option FieldType) (n : Nat) : Prop := Cond.code y c2 n2 ret2 ∈ cb_ws ∧ Cond.methodLink own idx y ∈ cb_ws ∧ Cond.static y ∈ cb_ws ∧ Cond.initialized y.cls ∈ cb_ws ∧ (y.cls ≠ "java/lang/invoke/MethodHandle" ∧ y.cls ≠ "java/lang/invoke/VarHandle" ∧ (parseMethodDescriptor y.desc).map (fun d => d.parameters.length) = some n) ∧ n2 ≤ 19
def cb_CN (own : String) (idx : Nat) (y : MethodName) (c2 : ByteArray) (n2 : Nat) (ret2 : Option FieldType) (n : Nat) (host : String) : Prop := Cond.code y c2 n2 ret2 ∈ cb_ws ∧ Cond.methodLinkNest own idx y host ∈ cb_nest ∧ Cond.static y ∈ cb_ws ∧ Cond.initialized y.cls ∈ cb_ws ∧ (y.cls ≠ "java/lang/invoke/MethodHandle" ∧ y.cls ≠ "java/lang/invoke/VarHandle" ∧ (parseMethodDescriptor y.desc).map (fun d => d.parameters.length) = some n) ∧ n2 ≤ 19
theorem cj_callVi (hC : cb_C w g γ own cc nL ret dp l Qc) {idx n2 n d2 : Nat} {y : MethodName} {c2 : ByteArray} {ret2 : Option FieldType} (cv : cb_CV own idx y c2 n2 ret2 n) {q ci : Nat} (hq : q < w.1) {fs : List Value} (hE : w.2.1 g q (M q) = .inr (ci, fs)) {T : u_T} {Nf : Nat} (hcl : vwCl[ci]? = some (y.cls, T, Nf)) {As : List Value} {r : Int32} {M2 : cb_Mem} (hM : Met l y (.code y c2 n2 ret2 :: cb_ws) (cb_rm d2) (cb_Pc w g (.ref (g.2.1 q) :: As) M) (cb_Qi w g r M2) 0 0 (cb_A w g)) (hd : d2 < dp) (hn : As.length = n) {st0 : List Value} (hst : st0 = As.reverse ++ .ref (g.2.1 q) :: st) (hr : (st.map fun v => v.category).sum ≤ 8) (d : decode cc pc = .ok (.invokevirtual idx, 3)) (k : cb_J w g γ nL M2 (pc + 3) lv (.int r :: st)) : cb_J w g γ nL M pc lv st0 := by
  intro H locs ls hP hS hl
  obtain ⟨hx, hb, hml, hown, hts, hB, -, -, hR, hL, -⟩ := hC
  obtain ⟨v1, v2, v3, v4, v5, v6, v7⟩ := cv
  have G : GoodIn cb_ws (wsV own idx y.cls y (.code y c2 n2 ret2 :: cb_ws)) := cb_good (fun _ h => h) (fun x hx => by
    rcases List.mem_append.mp hx with h | h
    · simp only [List.mem_cons, List.not_mem_nil, or_false] at h
      rcases h with rfl | rfl | rfl | rfl <;> assumption
    · exact cb_in_cons v1 x h)
  subst hL
  subst hst
  refine va_calli (va_runV (nL := nL) (As := As) (rest := st) (n := n) ⟨hx, hb, hml, hown, hts⟩ hM (cwV n hts G rfl rfl rfl ⟨rfl, v6⟩ (by rw [hR]; exact cb_rm_ok hd v7)) ⟨cb_Pc.blind, va_recv hB.1 hP hcl (by rw [cb_wl_get w g M hq, hE]), fun U hU hW => ⟨rfl, hB.warm (by rw [hU]; exact hS) hW, by rw [hU]; exact hP⟩⟩ rfl hn hl.1 rfl (lv_room hr) d ⟨by rw [hR]; exact Nat.le_refl 0, by rw [hR]; exact Nat.le_refl 0⟩) hS (fun q _ h => h) (fun q h => h) (fun x u t H1 locs1 ht _ hx hB9 _ _ hS1 => ?_)
  subst hx
  exact k H1 locs1 ls (by rw [← ht]; exact hB9) hS1 hl
theorem cj_callSi (hC : cb_C w g γ own cc nL ret dp l Qc) {idx n2 n d2 : Nat} {y : MethodName} {c2 : ByteArray} {ret2 : Option FieldType} (cv : cb_CS own idx y c2 n2 ret2 n) {As : List Value} {r : Int32} {M2 : cb_Mem} (hM : Met l y (.code y c2 n2 ret2 :: cb_ws) (cb_rm d2) (cb_Pc w g As M) (cb_Qi w g r M2) 0 0 (cb_A w g)) (hd : d2 < dp) (hn : As.length = n) {st0 : List Value} (hst : st0 = As.reverse ++ st) (hr : (st.map fun v => v.category).sum ≤ 8) (d : decode cc pc = .ok (.invokestatic idx, 3)) (k : cb_J w g γ nL M2 (pc + 3) lv (.int r :: st)) : cb_J w g γ nL M pc lv st0 := by
  intro H locs ls hP hS hl
  obtain ⟨hx, hb, hml, hown, hts, hB, -, -, hR, hL, -⟩ := hC
  obtain ⟨v1, v2, v3, v5, v6, v7⟩ := cv
  have G : GoodIn cb_ws (va_wsS own idx y (.code y c2 n2 ret2 :: cb_ws)) := cb_good (fun _ h => h) (fun x hx => by
    rcases List.mem_append.mp hx with h | h
    · simp only [List.mem_cons, List.not_mem_nil, or_false] at h
      rcases h with rfl | rfl | rfl <;> assumption
    · exact cb_in_cons v1 x h)
  subst hL
  subst hst
  refine va_calli (va_runS (nL := nL) (As := As) (rest := st) (n := n) ⟨hx, hb, hml, hown, hts⟩ hM (va_cwS n hts G rfl rfl rfl v6 (by rw [hR]; exact cb_rm_ok hd v7)) ⟨cb_Pc.blind, fun U hU hW => ⟨rfl, hB.warm (by rw [hU]; exact hS) hW, by rw [hU]; exact hP⟩⟩ rfl hn hl.1 rfl (lv_room hr) d ⟨by rw [hR]; exact Nat.le_refl 0, by rw [hR]; exact Nat.le_refl 0⟩) hS (fun q _ h => h) (fun q h => h) (fun x u t H1 locs1 ht _ hx hB9 _ _ hS1 => ?_)
  subst hx
  exact k H1 locs1 ls (by rw [← ht]; exact hB9) hS1 hl
theorem cj_callNi (hC : cb_C w g γ own cc nL ret dp l Qc) {idx n2 n d2 : Nat} {y : MethodName} {c2 : ByteArray} {ret2 : Option FieldType} {host : String} (cv : cb_CN own idx y c2 n2 ret2 n host) {As : List Value} {r : Int32} {M2 : cb_Mem} (hM : Met l y (.code y c2 n2 ret2 :: cb_ws) (cb_rm d2) (cb_Pc w g As M) (cb_Qi w g r M2) 0 0 (cb_A w g)) (hd : d2 < dp) (hn : As.length = n) {st0 : List Value} (hst : st0 = As.reverse ++ st) (hr : (st.map fun v => v.category).sum ≤ 8) (d : decode cc pc = .ok (.invokestatic idx, 3)) (k : cb_J w g γ nL M2 (pc + 3) lv (.int r :: st)) : cb_J w g γ nL M pc lv st0 := by
  intro H locs ls hP hS hl
  obtain ⟨hx, hb, hml, hown, hts, hB, -, -, hR, hL, -⟩ := hC
  obtain ⟨v1, v2, v3, v5, v6, v7⟩ := cv
  have G : GoodIn cb_ws (.code y c2 n2 ret2 :: cb_ws) := cb_good (fun _ h => h) (cb_in_cons v1)
  subst hL
  subst hst
  refine va_calli (va_runSN (nL := nL) (As := As) (rest := st) (n := n) ⟨hx, hb, hml, hown, hts⟩ hM ⟨va_cnB n hts G rfl rfl rfl (hB.2.1 _ v2) (hts _ v5) v6 (by rw [hR]; exact cb_rm_ok hd v7), hts _ v3, trivial⟩ ⟨cb_Pc.blind, fun U hU hW => ⟨rfl, hB.warm (by rw [hU]; exact hS) hW, by rw [hU]; exact hP⟩⟩ rfl hn hl.1 rfl (lv_room hr) d ⟨by rw [hR]; exact Nat.le_refl 0, by rw [hR]; exact Nat.le_refl 0⟩) hS (fun q _ h => h) (fun q h => h) (fun x u t H1 locs1 ht _ hx hB9 _ _ hS1 => ?_)
  subst hx
  exact k H1 locs1 ls (by rw [← ht]; exact hB9) hS1 hl
theorem cj_callVl (hC : cb_C w g γ own cc nL ret dp l Qc) {idx n2 n d2 : Nat} {y : MethodName} {c2 : ByteArray} {ret2 : Option FieldType} (cv : cb_CV own idx y c2 n2 ret2 n) {q ci : Nat} (hq : q < w.1) {fs : List Value} (hE : w.2.1 g q (M q) = .inr (ci, fs)) {T : u_T} {Nf : Nat} (hcl : vwCl[ci]? = some (y.cls, T, Nf)) {As : List Value} {r : Int64} {M2 : cb_Mem} (hM : Met l y (.code y c2 n2 ret2 :: cb_ws) (cb_rm d2) (cb_Pc w g (.ref (g.2.1 q) :: As) M) (cb_Ql w g r M2) 0 0 (cb_A w g)) (hd : d2 < dp) (hn : As.length = n) {st0 : List Value} (hst : st0 = As.reverse ++ .ref (g.2.1 q) :: st) (hr : (st.map fun v => v.category).sum ≤ 8) (d : decode cc pc = .ok (.invokevirtual idx, 3)) (k : cb_J w g γ nL M2 (pc + 3) lv (.long r :: st)) : cb_J w g γ nL M pc lv st0 := by
  intro H locs ls hP hS hl
  obtain ⟨hx, hb, hml, hown, hts, hB, -, -, hR, hL, -⟩ := hC
  obtain ⟨v1, v2, v3, v4, v5, v6, v7⟩ := cv
  have G : GoodIn cb_ws (wsV own idx y.cls y (.code y c2 n2 ret2 :: cb_ws)) := cb_good (fun _ h => h) (fun x hx => by
    rcases List.mem_append.mp hx with h | h
    · simp only [List.mem_cons, List.not_mem_nil, or_false] at h
      rcases h with rfl | rfl | rfl | rfl <;> assumption
    · exact cb_in_cons v1 x h)
  subst hL
  subst hst
  refine va_calll (va_runV (nL := nL) (As := As) (rest := st) (n := n) ⟨hx, hb, hml, hown, hts⟩ hM (cwV n hts G rfl rfl rfl ⟨rfl, v6⟩ (by rw [hR]; exact cb_rm_ok hd v7)) ⟨cb_Pc.blind, va_recv hB.1 hP hcl (by rw [cb_wl_get w g M hq, hE]), fun U hU hW => ⟨rfl, hB.warm (by rw [hU]; exact hS) hW, by rw [hU]; exact hP⟩⟩ rfl hn hl.1 rfl (lv_room hr) d ⟨by rw [hR]; exact Nat.le_refl 0, by rw [hR]; exact Nat.le_refl 0⟩) hS (fun q _ h => h) (fun q h => h) (fun x u t H1 locs1 ht _ hx hB9 _ _ hS1 => ?_)
  subst hx
  exact k H1 locs1 ls (by rw [← ht]; exact hB9) hS1 hl
theorem cj_callSl (hC : cb_C w g γ own cc nL ret dp l Qc) {idx n2 n d2 : Nat} {y : MethodName} {c2 : ByteArray} {ret2 : Option FieldType} (cv : cb_CS own idx y c2 n2 ret2 n) {As : List Value} {r : Int64} {M2 : cb_Mem} (hM : Met l y (.code y c2 n2 ret2 :: cb_ws) (cb_rm d2) (cb_Pc w g As M) (cb_Ql w g r M2) 0 0 (cb_A w g)) (hd : d2 < dp) (hn : As.length = n) {st0 : List Value} (hst : st0 = As.reverse ++ st) (hr : (st.map fun v => v.category).sum ≤ 8) (d : decode cc pc = .ok (.invokestatic idx, 3)) (k : cb_J w g γ nL M2 (pc + 3) lv (.long r :: st)) : cb_J w g γ nL M pc lv st0 := by
  intro H locs ls hP hS hl
  obtain ⟨hx, hb, hml, hown, hts, hB, -, -, hR, hL, -⟩ := hC
  obtain ⟨v1, v2, v3, v5, v6, v7⟩ := cv
  have G : GoodIn cb_ws (va_wsS own idx y (.code y c2 n2 ret2 :: cb_ws)) := cb_good (fun _ h => h) (fun x hx => by
    rcases List.mem_append.mp hx with h | h
    · simp only [List.mem_cons, List.not_mem_nil, or_false] at h
      rcases h with rfl | rfl | rfl <;> assumption
    · exact cb_in_cons v1 x h)
  subst hL
  subst hst
  refine va_calll (va_runS (nL := nL) (As := As) (rest := st) (n := n) ⟨hx, hb, hml, hown, hts⟩ hM (va_cwS n hts G rfl rfl rfl v6 (by rw [hR]; exact cb_rm_ok hd v7)) ⟨cb_Pc.blind, fun U hU hW => ⟨rfl, hB.warm (by rw [hU]; exact hS) hW, by rw [hU]; exact hP⟩⟩ rfl hn hl.1 rfl (lv_room hr) d ⟨by rw [hR]; exact Nat.le_refl 0, by rw [hR]; exact Nat.le_refl 0⟩) hS (fun q _ h => h) (fun q h => h) (fun x u t H1 locs1 ht _ hx hB9 _ _ hS1 => ?_)
  subst hx
  exact k H1 locs1 ls (by rw [← ht]; exact hB9) hS1 hl
theorem cj_callNl (hC : cb_C w g γ own cc nL ret dp l Qc) {idx n2 n d2 : Nat} {y : MethodName} {c2 : ByteArray} {ret2 : Option FieldType} {host : String} (cv : cb_CN own idx y c2 n2 ret2 n host) {As : List Value} {r : Int64} {M2 : cb_Mem} (hM : Met l y (.code y c2 n2 ret2 :: cb_ws) (cb_rm d2) (cb_Pc w g As M) (cb_Ql w g r M2) 0 0 (cb_A w g)) (hd : d2 < dp) (hn : As.length = n) {st0 : List Value} (hst : st0 = As.reverse ++ st) (hr : (st.map fun v => v.category).sum ≤ 8) (d : decode cc pc = .ok (.invokestatic idx, 3)) (k : cb_J w g γ nL M2 (pc + 3) lv (.long r :: st)) : cb_J w g γ nL M pc lv st0 := by
  intro H locs ls hP hS hl
  obtain ⟨hx, hb, hml, hown, hts, hB, -, -, hR, hL, -⟩ := hC
  obtain ⟨v1, v2, v3, v5, v6, v7⟩ := cv
  have G : GoodIn cb_ws (.code y c2 n2 ret2 :: cb_ws) := cb_good (fun _ h => h) (cb_in_cons v1)
  subst hL
  subst hst
  refine va_calll (va_runSN (nL := nL) (As := As) (rest := st) (n := n) ⟨hx, hb, hml, hown, hts⟩ hM ⟨va_cnB n hts G rfl rfl rfl (hB.2.1 _ v2) (hts _ v5) v6 (by rw [hR]; exact cb_rm_ok hd v7), hts _ v3, trivial⟩ ⟨cb_Pc.blind, fun U hU hW => ⟨rfl, hB.warm (by rw [hU]; exact hS) hW, by rw [hU]; exact hP⟩⟩ rfl hn hl.1 rfl (lv_room hr) d ⟨by rw [hR]; exact Nat.le_refl 0, by rw [hR]; exact Nat.le_refl 0⟩) hS (fun q _ h => h) (fun q h => h) (fun x u t H1 locs1 ht _ hx hB9 _ _ hS1 => ?_)
  subst hx
  exact k H1 locs1 ls (by rw [← ht]; exact hB9) hS1 hl
theorem cj_callVv (hC : cb_C w g γ own cc nL ret dp l Qc) {idx n2 n d2 : Nat} {y : MethodName} {c2 : ByteArray} {ret2 : Option FieldType} (cv : cb_CV own idx y c2 n2 ret2 n) {q ci : Nat} (hq : q < w.1) {fs : List Value} (hE : w.2.1 g q (M q) = .inr (ci, fs)) {T : u_T} {Nf : Nat} (hcl : vwCl[ci]? = some (y.cls, T, Nf)) {As : List Value}  {M2 : cb_Mem} (hM : Met l y (.code y c2 n2 ret2 :: cb_ws) (cb_rm d2) (cb_Pc w g (.ref (g.2.1 q) :: As) M) (cb_Qv w g M2) 0 0 (cb_A w g)) (hd : d2 < dp) (hn : As.length = n) {st0 : List Value} (hst : st0 = As.reverse ++ .ref (g.2.1 q) :: st) (hr : (st.map fun v => v.category).sum ≤ 8) (d : decode cc pc = .ok (.invokevirtual idx, 3)) (k : cb_J w g γ nL M2 (pc + 3) lv st) : cb_J w g γ nL M pc lv st0 := by
  intro H locs ls hP hS hl
  obtain ⟨hx, hb, hml, hown, hts, hB, -, -, hR, hL, -⟩ := hC
  obtain ⟨v1, v2, v3, v4, v5, v6, v7⟩ := cv
  have G : GoodIn cb_ws (wsV own idx y.cls y (.code y c2 n2 ret2 :: cb_ws)) := cb_good (fun _ h => h) (fun x hx => by
    rcases List.mem_append.mp hx with h | h
    · simp only [List.mem_cons, List.not_mem_nil, or_false] at h
      rcases h with rfl | rfl | rfl | rfl <;> assumption
    · exact cb_in_cons v1 x h)
  subst hL
  subst hst
  refine va_callv (va_runV (nL := nL) (As := As) (rest := st) (n := n) ⟨hx, hb, hml, hown, hts⟩ hM (cwV n hts G rfl rfl rfl ⟨rfl, v6⟩ (by rw [hR]; exact cb_rm_ok hd v7)) ⟨cb_Pc.blind, va_recv hB.1 hP hcl (by rw [cb_wl_get w g M hq, hE]), fun U hU hW => ⟨rfl, hB.warm (by rw [hU]; exact hS) hW, by rw [hU]; exact hP⟩⟩ rfl hn hl.1 rfl (lv_room hr) d ⟨by rw [hR]; exact Nat.le_refl 0, by rw [hR]; exact Nat.le_refl 0⟩) hS (fun q _ h => h) (fun q h => h) (fun u t H1 locs1 ht _ _ hB9 _ _ hS1 => ?_)
  skip
  exact k H1 locs1 ls (by rw [← ht]; exact hB9) hS1 hl
theorem cj_callSv (hC : cb_C w g γ own cc nL ret dp l Qc) {idx n2 n d2 : Nat} {y : MethodName} {c2 : ByteArray} {ret2 : Option FieldType} (cv : cb_CS own idx y c2 n2 ret2 n) {As : List Value}  {M2 : cb_Mem} (hM : Met l y (.code y c2 n2 ret2 :: cb_ws) (cb_rm d2) (cb_Pc w g As M) (cb_Qv w g M2) 0 0 (cb_A w g)) (hd : d2 < dp) (hn : As.length = n) {st0 : List Value} (hst : st0 = As.reverse ++ st) (hr : (st.map fun v => v.category).sum ≤ 8) (d : decode cc pc = .ok (.invokestatic idx, 3)) (k : cb_J w g γ nL M2 (pc + 3) lv st) : cb_J w g γ nL M pc lv st0 := by
  intro H locs ls hP hS hl
  obtain ⟨hx, hb, hml, hown, hts, hB, -, -, hR, hL, -⟩ := hC
  obtain ⟨v1, v2, v3, v5, v6, v7⟩ := cv
  have G : GoodIn cb_ws (va_wsS own idx y (.code y c2 n2 ret2 :: cb_ws)) := cb_good (fun _ h => h) (fun x hx => by
    rcases List.mem_append.mp hx with h | h
    · simp only [List.mem_cons, List.not_mem_nil, or_false] at h
      rcases h with rfl | rfl | rfl <;> assumption
    · exact cb_in_cons v1 x h)
  subst hL
  subst hst
  refine va_callv (va_runS (nL := nL) (As := As) (rest := st) (n := n) ⟨hx, hb, hml, hown, hts⟩ hM (va_cwS n hts G rfl rfl rfl v6 (by rw [hR]; exact cb_rm_ok hd v7)) ⟨cb_Pc.blind, fun U hU hW => ⟨rfl, hB.warm (by rw [hU]; exact hS) hW, by rw [hU]; exact hP⟩⟩ rfl hn hl.1 rfl (lv_room hr) d ⟨by rw [hR]; exact Nat.le_refl 0, by rw [hR]; exact Nat.le_refl 0⟩) hS (fun q _ h => h) (fun q h => h) (fun u t H1 locs1 ht _ _ hB9 _ _ hS1 => ?_)
  skip
  exact k H1 locs1 ls (by rw [← ht]; exact hB9) hS1 hl
theorem cj_callNv (hC : cb_C w g γ own cc nL ret dp l Qc) {idx n2 n d2 : Nat} {y : MethodName} {c2 : ByteArray} {ret2 : Option FieldType} {host : String} (cv : cb_CN own idx y c2 n2 ret2 n host) {As : List Value}  {M2 : cb_Mem} (hM : Met l y (.code y c2 n2 ret2 :: cb_ws) (cb_rm d2) (cb_Pc w g As M) (cb_Qv w g M2) 0 0 (cb_A w g)) (hd : d2 < dp) (hn : As.length = n) {st0 : List Value} (hst : st0 = As.reverse ++ st) (hr : (st.map fun v => v.category).sum ≤ 8) (d : decode cc pc = .ok (.invokestatic idx, 3)) (k : cb_J w g γ nL M2 (pc + 3) lv st) : cb_J w g γ nL M pc lv st0 := by
  intro H locs ls hP hS hl
  obtain ⟨hx, hb, hml, hown, hts, hB, -, -, hR, hL, -⟩ := hC
  obtain ⟨v1, v2, v3, v5, v6, v7⟩ := cv
  have G : GoodIn cb_ws (.code y c2 n2 ret2 :: cb_ws) := cb_good (fun _ h => h) (cb_in_cons v1)
  subst hL
  subst hst
  refine va_callv (va_runSN (nL := nL) (As := As) (rest := st) (n := n) ⟨hx, hb, hml, hown, hts⟩ hM ⟨va_cnB n hts G rfl rfl rfl (hB.2.1 _ v2) (hts _ v5) v6 (by rw [hR]; exact cb_rm_ok hd v7), hts _ v3, trivial⟩ ⟨cb_Pc.blind, fun U hU hW => ⟨rfl, hB.warm (by rw [hU]; exact hS) hW, by rw [hU]; exact hP⟩⟩ rfl hn hl.1 rfl (lv_room hr) d ⟨by rw [hR]; exact Nat.le_refl 0, by rw [hR]; exact Nat.le_refl 0⟩) hS (fun q _ h => h) (fun q h => h) (fun u t H1 locs1 ht _ _ hB9 _ _ hS1 => ?_)
  skip
  exact k H1 locs1 ls (by rw [← ht]; exact hB9) hS1 hl
end CBR
/-! the pure side: guards, names, binds -/
def cb_let {α β : Type} (x : β) (f : β → α) : α := f x
theorem cb_t {α : Type} {c : Prop} [Decidable c] {a b : Option α} {o : α} (hc : c) (h : (if c then a else b) = some o) : a = some o := by rw [if_pos hc] at h; exact h
theorem cb_f {α : Type} {c : Prop} [Decidable c] {a b : Option α} {o : α} (hc : ¬ c) (h : (if c then a else b) = some o) : b = some o := by rw [if_neg hc] at h; exact h
theorem cb_b {α β : Type} {x : Option β} {f : β → Option α} {o : α} (h : x.bind f = some o) : ∃ v, x = some v ∧ f v = some o := by
  cases x with
  | none => cases h
  | some v => exact ⟨v, rfl, h⟩
/-- an index in its row, as it is decided -/
def cb_in (i : Int32) (n : Nat) : Bool := decide (0 ≤ i.toInt) && decide (i.toInt < n)
theorem cb_in_iff {i : Int32} {n : Nat} : cb_in i n = true ↔ vp_in i n := by
  unfold cb_in
  rw [vp_in_iff, Bool.and_eq_true, decide_eq_true_eq, decide_eq_true_eq]
theorem cb_g {α : Type} {i : Int32} {n : Nat} {a : Option α} {o : α} (h : (if cb_in i n = true then a else none) = some o) : vp_in i n ∧ a = some o := by
  by_cases hc : cb_in i n = true
  · rw [if_pos hc] at h; exact ⟨cb_in_iff.mp hc, h⟩
  · rw [if_neg hc] at h; cases h
theorem cb_gn {α β : Type} {x y : β} [DecidableEq β] {a : Option α} {o : α} (h : (if x = y then none else a) = some o) : ¬ x = y ∧ a = some o := by
  by_cases hc : x = y
  · rw [if_pos hc] at h; cases h
  · rw [if_neg hc] at h; exact ⟨hc, h⟩
theorem cb_gp {α : Type} {c : Prop} [Decidable c] {a : Option α} {o : α} (h : (if c then a else none) = some o) : c ∧ a = some o := by
  by_cases hc : c
  · rw [if_pos hc] at h; exact ⟨hc, h⟩
  · rw [if_neg hc] at h; cases h
def cb_bs {α ρ τ : Type} (x : Option (ρ ⊕ τ)) (f : ρ → Option α) (k : τ → Option α) : Option α := x.bind fun z => match z with
  | .inl r => f r
  | .inr t => k t
theorem cb_s {α ρ τ : Type} {x : Option (ρ ⊕ τ)} {f : ρ → Option α} {k : τ → Option α} {o : α} (h : cb_bs x f k = some o) : ∃ z, x = some z ∧ (∀ r, z = .inl r → f r = some o) ∧ ∀ t, z = .inr t → k t = some o := by
  cases x with
  | none => cases h
  | some z =>
    refine ⟨z, rfl, fun r hr => ?_, fun t ht => ?_⟩
    · subst hr; exact h
    · subst ht; exact h

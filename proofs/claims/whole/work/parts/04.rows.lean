section Rows
variable {G : pG} {M : pM} {R : Room} {mc ms cs sl : Nat} {Q : pQ} {pc : Nat} {lo lo' : List (Nat × Value)} {st : List Value} {N : pN} {I : pI} {L : pL} {P : pR}
theorem s_iconst {n : Int} {v : Int32} (hd : decode M.2.1 pc = .ok (.iconst n, 1)) (hv : Int32.ofInt n = v) (k : SW G M R mc ms cs sl Q (pc + 1) lo (.int v :: st) N I L P) : SW G M R mc ms cs sl Q pc lo st N I L P :=
  fun p e s m args below meth c H locs ls B hH hS hl => lv_iconst B.1 B.2.1 hd hv (k p e s m args below meth c H locs ls B hH hS hl)
theorem s_bipush {n : Int} {v : Int32} (hd : decode M.2.1 pc = .ok (.bipush n, 2)) (hv : (Int8.ofInt n).toInt32 = v) (k : SW G M R mc ms cs sl Q (pc + 2) lo (.int v :: st) N I L P) : SW G M R mc ms cs sl Q pc lo st N I L P :=
  fun p e s m args below meth c H locs ls B hH hS hl => lv_bipush B.1 B.2.1 hd hv (k p e s m args below meth c H locs ls B hH hS hl)
theorem s_sipush {n : Int} {v : Int32} (hd : decode M.2.1 pc = .ok (.sipush n, 3)) (hv : (Int16.ofInt n).toInt32 = v) (k : SW G M R mc ms cs sl Q (pc + 3) lo (.int v :: st) N I L P) : SW G M R mc ms cs sl Q pc lo st N I L P :=
  fun p e s m args below meth c H locs ls B hH hS hl => lv_sipush B.1 B.2.1 hd hv (k p e s m args below meth c H locs ls B hH hS hl)
theorem s_lconst {n : Fin 2} {v : Int64} (hd : decode M.2.1 pc = .ok (.lconst n, 1)) (hv : Int64.ofNat n = v) (k : SW G M R mc ms cs sl Q (pc + 1) lo (.long v :: st) N I L P) : SW G M R mc ms cs sl Q pc lo st N I L P :=
  fun p e s m args below meth c H locs ls B hH hS hl => lv_lconst B.1 B.2.1 hd hv (k p e s m args below meth c H locs ls B hH hS hl)
theorem s_iload_n {q : Fin 4} {x : Int32} (hd : decode M.2.1 pc = .ok (.iload_n q, 1)) (j : Nat) {i : Nat} (hi : (q : Nat) = i) (hj : lo[j]? = some (i, .int x)) (k : SW G M R mc ms cs sl Q (pc + 1) lo (.int x :: st) N I L P) : SW G M R mc ms cs sl Q pc lo st N I L P :=
  fun p e s m args below meth c H locs ls B hH hS hl => lv_iload_n B.1 B.2.1 hd hi (p_at hl j hj) (k p e s m args below meth c H locs ls B hH hS hl)
theorem s_iload {i : Nat} {x : Int32} (hd : decode M.2.1 pc = .ok (.iload i, 2)) (j : Nat) (hj : lo[j]? = some (i, .int x)) (k : SW G M R mc ms cs sl Q (pc + 2) lo (.int x :: st) N I L P) : SW G M R mc ms cs sl Q pc lo st N I L P :=
  fun p e s m args below meth c H locs ls B hH hS hl => lv_iload B.1 B.2.1 hd (p_at hl j hj) (k p e s m args below meth c H locs ls B hH hS hl)
theorem s_lload_n {q : Fin 4} {x : Int64} (hd : decode M.2.1 pc = .ok (.lload_n q, 1)) (j : Nat) {i : Nat} (hi : (q : Nat) = i) (hj : lo[j]? = some (i, .long x)) (k : SW G M R mc ms cs sl Q (pc + 1) lo (.long x :: st) N I L P) : SW G M R mc ms cs sl Q pc lo st N I L P :=
  fun p e s m args below meth c H locs ls B hH hS hl => lv_lload_n B.1 B.2.1 hd hi (p_at hl j hj) (k p e s m args below meth c H locs ls B hH hS hl)
theorem s_lload {i : Nat} {x : Int64} (hd : decode M.2.1 pc = .ok (.lload i, 2)) (j : Nat) (hj : lo[j]? = some (i, .long x)) (k : SW G M R mc ms cs sl Q (pc + 2) lo (.long x :: st) N I L P) : SW G M R mc ms cs sl Q pc lo st N I L P :=
  fun p e s m args below meth c H locs ls B hH hS hl => lv_lload B.1 B.2.1 hd (p_at hl j hj) (k p e s m args below meth c H locs ls B hH hS hl)
theorem s_aload_n {q : Fin 4} {x : Nat} (hd : decode M.2.1 pc = .ok (.aload_n q, 1)) (j : Nat) {i : Nat} (hi : (q : Nat) = i) (hj : lo[j]? = some (i, .ref x)) (k : SW G M R mc ms cs sl Q (pc + 1) lo (.ref x :: st) N I L P) : SW G M R mc ms cs sl Q pc lo st N I L P :=
  fun p e s m args below meth c H locs ls B hH hS hl => lv_aload_n B.1 B.2.1 hd hi (p_at hl j hj) (k p e s m args below meth c H locs ls B hH hS hl)
theorem s_aload {i : Nat} {x : Nat} (hd : decode M.2.1 pc = .ok (.aload i, 2)) (j : Nat) (hj : lo[j]? = some (i, .ref x)) (k : SW G M R mc ms cs sl Q (pc + 2) lo (.ref x :: st) N I L P) : SW G M R mc ms cs sl Q pc lo st N I L P :=
  fun p e s m args below meth c H locs ls B hH hS hl => lv_aload B.1 B.2.1 hd (p_at hl j hj) (k p e s m args below meth c H locs ls B hH hS hl)
theorem s_aload_nN {q : Fin 4} (hd : decode M.2.1 pc = .ok (.aload_n q, 1)) (j : Nat) {i : Nat} (hi : (q : Nat) = i) (hj : lo[j]? = some (i, .null)) (k : SW G M R mc ms cs sl Q (pc + 1) lo (.null :: st) N I L P) : SW G M R mc ms cs sl Q pc lo st N I L P :=
  fun p e s m args below meth c H locs ls B hH hS hl => lv_aload_nN B.1 B.2.1 hd hi (p_at hl j hj) (k p e s m args below meth c H locs ls B hH hS hl)
theorem s_aloadN {i : Nat} (hd : decode M.2.1 pc = .ok (.aload i, 2)) (j : Nat) (hj : lo[j]? = some (i, .null)) (k : SW G M R mc ms cs sl Q (pc + 2) lo (.null :: st) N I L P) : SW G M R mc ms cs sl Q pc lo st N I L P :=
  fun p e s m args below meth c H locs ls B hH hS hl => lv_aloadN B.1 B.2.1 hd (p_at hl j hj) (k p e s m args below meth c H locs ls B hH hS hl)
theorem s_istore_n {q : Fin 4} {i : Nat} {x : Int32} (hd : decode M.2.1 pc = .ok (.istore_n q, 1)) (hi : (q : Nat) = i) (hn : i < M.2.2.1) (hl2 : p_s1 i (.int x) lo = lo') (k : SW G M R mc ms cs sl Q (pc + 1) lo' st N I L P) : SW G M R mc ms cs sl Q pc lo (.int x :: st) N I L P :=
  fun p e s m args below meth c H locs ls B hH hS hl => lv_istore_n B.1 B.2.1 hd hi hl hn ((p_s1_map G i (.int x) lo).trans (by rw [hl2])) (fun ls hl => (k p e s m args below meth c H locs ls B hH hS hl))
theorem s_istore {i : Nat} {x : Int32} (hd : decode M.2.1 pc = .ok (.istore i, 2)) (hn : i < M.2.2.1) (hl2 : p_s1 i (.int x) lo = lo') (k : SW G M R mc ms cs sl Q (pc + 2) lo' st N I L P) : SW G M R mc ms cs sl Q pc lo (.int x :: st) N I L P :=
  fun p e s m args below meth c H locs ls B hH hS hl => lv_istore B.1 B.2.1 hd hl hn ((p_s1_map G i (.int x) lo).trans (by rw [hl2])) (fun ls hl => (k p e s m args below meth c H locs ls B hH hS hl))
theorem s_lstore_n {q : Fin 4} {i : Nat} {x : Int64} (hd : decode M.2.1 pc = .ok (.lstore_n q, 1)) (hi : (q : Nat) = i) (hn : i + 1 < M.2.2.1) (hl2 : p_s2 i (.long x) lo = lo') (k : SW G M R mc ms cs sl Q (pc + 1) lo' st N I L P) : SW G M R mc ms cs sl Q pc lo (.long x :: st) N I L P :=
  fun p e s m args below meth c H locs ls B hH hS hl => lv_lstore_n B.1 B.2.1 hd hi hl hn ((p_s2_map G i (.long x) lo).trans (by rw [hl2])) (fun ls hl => (k p e s m args below meth c H locs ls B hH hS hl))
theorem s_lstore {i : Nat} {x : Int64} (hd : decode M.2.1 pc = .ok (.lstore i, 2)) (hn : i + 1 < M.2.2.1) (hl2 : p_s2 i (.long x) lo = lo') (k : SW G M R mc ms cs sl Q (pc + 2) lo' st N I L P) : SW G M R mc ms cs sl Q pc lo (.long x :: st) N I L P :=
  fun p e s m args below meth c H locs ls B hH hS hl => lv_lstore B.1 B.2.1 hd hl hn ((p_s2_map G i (.long x) lo).trans (by rw [hl2])) (fun ls hl => (k p e s m args below meth c H locs ls B hH hS hl))
theorem s_astore_n {q : Fin 4} {i : Nat} {x : Nat} (hd : decode M.2.1 pc = .ok (.astore_n q, 1)) (hi : (q : Nat) = i) (hn : i < M.2.2.1) (hl2 : p_s1 i (.ref x) lo = lo') (k : SW G M R mc ms cs sl Q (pc + 1) lo' st N I L P) : SW G M R mc ms cs sl Q pc lo (.ref x :: st) N I L P :=
  fun p e s m args below meth c H locs ls B hH hS hl => lv_astore_n B.1 B.2.1 hd hi hl hn ((p_s1_map G i (.ref x) lo).trans (by rw [hl2])) (fun ls hl => (k p e s m args below meth c H locs ls B hH hS hl))
theorem s_astore {i : Nat} {x : Nat} (hd : decode M.2.1 pc = .ok (.astore i, 2)) (hn : i < M.2.2.1) (hl2 : p_s1 i (.ref x) lo = lo') (k : SW G M R mc ms cs sl Q (pc + 2) lo' st N I L P) : SW G M R mc ms cs sl Q pc lo (.ref x :: st) N I L P :=
  fun p e s m args below meth c H locs ls B hH hS hl => lv_astore B.1 B.2.1 hd hl hn ((p_s1_map G i (.ref x) lo).trans (by rw [hl2])) (fun ls hl => (k p e s m args below meth c H locs ls B hH hS hl))
theorem s_astore_nN {q : Fin 4} {i : Nat}  (hd : decode M.2.1 pc = .ok (.astore_n q, 1)) (hi : (q : Nat) = i) (hn : i < M.2.2.1) (hl2 : p_s1 i (.null) lo = lo') (k : SW G M R mc ms cs sl Q (pc + 1) lo' st N I L P) : SW G M R mc ms cs sl Q pc lo (.null :: st) N I L P :=
  fun p e s m args below meth c H locs ls B hH hS hl => lv_astore_nN B.1 B.2.1 hd hi hl hn ((p_s1_map G i (.null) lo).trans (by rw [hl2])) (fun ls hl => (k p e s m args below meth c H locs ls B hH hS hl))
theorem s_astoreN {i : Nat}  (hd : decode M.2.1 pc = .ok (.astore i, 2)) (hn : i < M.2.2.1) (hl2 : p_s1 i (.null) lo = lo') (k : SW G M R mc ms cs sl Q (pc + 2) lo' st N I L P) : SW G M R mc ms cs sl Q pc lo (.null :: st) N I L P :=
  fun p e s m args below meth c H locs ls B hH hS hl => lv_astoreN B.1 B.2.1 hd hl hn ((p_s1_map G i (.null) lo).trans (by rw [hl2])) (fun ls hl => (k p e s m args below meth c H locs ls B hH hS hl))
theorem s_iinc {i : Nat} {n : Int} {x v : Int32} (hd : decode M.2.1 pc = .ok (.iinc i n, 3)) (j : Nat) (hj : lo[j]? = some (i, .int x)) (hv : x + Int32.ofInt n = v) (hn : i < M.2.2.1) (hl2 : p_s1 i (.int v) lo = lo') (k : SW G M R mc ms cs sl Q (pc + 3) lo' st N I L P) : SW G M R mc ms cs sl Q pc lo st N I L P :=
  fun p e s m args below meth c H locs ls B hH hS hl => lv_iinc B.1 B.2.1 hd hl (k := j) (by rw [List.getElem?_map, hj]; rfl) hv hn ((p_s1_map G i (.int v) lo).trans (by rw [hl2])) (fun ls hl => (k p e s m args below meth c H locs ls B hH hS hl))
theorem s_iadd {x y : Int32} (hd : decode M.2.1 pc = .ok (.iadd, 1)) (k : SW G M R mc ms cs sl Q (pc + 1) lo (.int (x + y) :: st) N I L P) : SW G M R mc ms cs sl Q pc lo (.int y :: .int x :: st) N I L P :=
  fun p e s m args below meth c H locs ls B hH hS hl => lv_iadd B.1 B.2.1 hd (k p e s m args below meth c H locs ls B hH hS hl)
theorem s_isub {x y : Int32} (hd : decode M.2.1 pc = .ok (.isub, 1)) (k : SW G M R mc ms cs sl Q (pc + 1) lo (.int (x - y) :: st) N I L P) : SW G M R mc ms cs sl Q pc lo (.int y :: .int x :: st) N I L P :=
  fun p e s m args below meth c H locs ls B hH hS hl => lv_isub B.1 B.2.1 hd (k p e s m args below meth c H locs ls B hH hS hl)
theorem s_imul {x y : Int32} (hd : decode M.2.1 pc = .ok (.imul, 1)) (k : SW G M R mc ms cs sl Q (pc + 1) lo (.int (x * y) :: st) N I L P) : SW G M R mc ms cs sl Q pc lo (.int y :: .int x :: st) N I L P :=
  fun p e s m args below meth c H locs ls B hH hS hl => lv_imul B.1 B.2.1 hd (k p e s m args below meth c H locs ls B hH hS hl)
theorem s_iand {x y : Int32} (hd : decode M.2.1 pc = .ok (.iand, 1)) (k : SW G M R mc ms cs sl Q (pc + 1) lo (.int (x &&& y) :: st) N I L P) : SW G M R mc ms cs sl Q pc lo (.int y :: .int x :: st) N I L P :=
  fun p e s m args below meth c H locs ls B hH hS hl => lv_iand B.1 B.2.1 hd (k p e s m args below meth c H locs ls B hH hS hl)
theorem s_ior {x y : Int32} (hd : decode M.2.1 pc = .ok (.ior, 1)) (k : SW G M R mc ms cs sl Q (pc + 1) lo (.int (x ||| y) :: st) N I L P) : SW G M R mc ms cs sl Q pc lo (.int y :: .int x :: st) N I L P :=
  fun p e s m args below meth c H locs ls B hH hS hl => lv_ior B.1 B.2.1 hd (k p e s m args below meth c H locs ls B hH hS hl)
theorem s_ishl {x y : Int32} (hd : decode M.2.1 pc = .ok (.ishl, 1)) (k : SW G M R mc ms cs sl Q (pc + 1) lo (.int (x <<< (y &&& 31)) :: st) N I L P) : SW G M R mc ms cs sl Q pc lo (.int y :: .int x :: st) N I L P :=
  fun p e s m args below meth c H locs ls B hH hS hl => lv_ishl B.1 B.2.1 hd (k p e s m args below meth c H locs ls B hH hS hl)
theorem s_ishr {x y : Int32} (hd : decode M.2.1 pc = .ok (.ishr, 1)) (k : SW G M R mc ms cs sl Q (pc + 1) lo (.int (x >>> (y &&& 31)) :: st) N I L P) : SW G M R mc ms cs sl Q pc lo (.int y :: .int x :: st) N I L P :=
  fun p e s m args below meth c H locs ls B hH hS hl => lv_ishr B.1 B.2.1 hd (k p e s m args below meth c H locs ls B hH hS hl)
theorem s_idiv {x y : Int32} (hd : decode M.2.1 pc = .ok (.idiv, 1)) (hz : ¬ y = 0) (k : SW G M R mc ms cs sl Q (pc + 1) lo (.int (x / y) :: st) N I L P) : SW G M R mc ms cs sl Q pc lo (.int y :: .int x :: st) N I L P :=
  fun p e s m args below meth c H locs ls B hH hS hl => lv_idiv B.1 B.2.1 hd hz (k p e s m args below meth c H locs ls B hH hS hl)
theorem s_irem {x y : Int32} (hd : decode M.2.1 pc = .ok (.irem, 1)) (hz : ¬ y = 0) (k : SW G M R mc ms cs sl Q (pc + 1) lo (.int (x - x / y * y) :: st) N I L P) : SW G M R mc ms cs sl Q pc lo (.int y :: .int x :: st) N I L P :=
  fun p e s m args below meth c H locs ls B hH hS hl => lv_irem B.1 B.2.1 hd hz (k p e s m args below meth c H locs ls B hH hS hl)
theorem s_ladd {x y : Int64} (hd : decode M.2.1 pc = .ok (.ladd, 1)) (k : SW G M R mc ms cs sl Q (pc + 1) lo (.long (x + y) :: st) N I L P) : SW G M R mc ms cs sl Q pc lo (.long y :: .long x :: st) N I L P :=
  fun p e s m args below meth c H locs ls B hH hS hl => lv_ladd B.1 B.2.1 hd (k p e s m args below meth c H locs ls B hH hS hl)
theorem s_lsub {x y : Int64} (hd : decode M.2.1 pc = .ok (.lsub, 1)) (k : SW G M R mc ms cs sl Q (pc + 1) lo (.long (x - y) :: st) N I L P) : SW G M R mc ms cs sl Q pc lo (.long y :: .long x :: st) N I L P :=
  fun p e s m args below meth c H locs ls B hH hS hl => lv_lsub B.1 B.2.1 hd (k p e s m args below meth c H locs ls B hH hS hl)
theorem s_lmul {x y : Int64} (hd : decode M.2.1 pc = .ok (.lmul, 1)) (k : SW G M R mc ms cs sl Q (pc + 1) lo (.long (x * y) :: st) N I L P) : SW G M R mc ms cs sl Q pc lo (.long y :: .long x :: st) N I L P :=
  fun p e s m args below meth c H locs ls B hH hS hl => lv_lmul B.1 B.2.1 hd (k p e s m args below meth c H locs ls B hH hS hl)
theorem s_ldiv {x y : Int64} (hd : decode M.2.1 pc = .ok (.ldiv, 1)) (hz : ¬ y = 0) (k : SW G M R mc ms cs sl Q (pc + 1) lo (.long (x / y) :: st) N I L P) : SW G M R mc ms cs sl Q pc lo (.long y :: .long x :: st) N I L P :=
  fun p e s m args below meth c H locs ls B hH hS hl => lv_ldiv B.1 B.2.1 hd hz (k p e s m args below meth c H locs ls B hH hS hl)
theorem s_ineg {x : Int32} (hd : decode M.2.1 pc = .ok (.ineg, 1)) (k : SW G M R mc ms cs sl Q (pc + 1) lo (.int (-x) :: st) N I L P) : SW G M R mc ms cs sl Q pc lo (.int x :: st) N I L P :=
  fun p e s m args below meth c H locs ls B hH hS hl => lv_ineg B.1 B.2.1 hd (k p e s m args below meth c H locs ls B hH hS hl)
theorem s_lneg {x : Int64} (hd : decode M.2.1 pc = .ok (.lneg, 1)) (k : SW G M R mc ms cs sl Q (pc + 1) lo (.long (-x) :: st) N I L P) : SW G M R mc ms cs sl Q pc lo (.long x :: st) N I L P :=
  fun p e s m args below meth c H locs ls B hH hS hl => lv_lneg B.1 B.2.1 hd (k p e s m args below meth c H locs ls B hH hS hl)
theorem s_iushr {x y : Int32} (hd : decode M.2.1 pc = .ok (.iushr, 1)) (k : SW G M R mc ms cs sl Q (pc + 1) lo (.int ((x.toUInt32 >>> (y.toUInt32 &&& Int32.toUInt32 31)).toInt32) :: st) N I L P) : SW G M R mc ms cs sl Q pc lo (.int y :: .int x :: st) N I L P :=
  fun p e s m args below meth c H locs ls B hH hS hl => lv_iushr B.1 B.2.1 hd rfl (k p e s m args below meth c H locs ls B hH hS hl)
theorem s_i2l {x : Int32} (hd : decode M.2.1 pc = .ok (.i2l, 1)) (k : SW G M R mc ms cs sl Q (pc + 1) lo (.long x.toInt64 :: st) N I L P) : SW G M R mc ms cs sl Q pc lo (.int x :: st) N I L P :=
  fun p e s m args below meth c H locs ls B hH hS hl => lv_i2l B.1 B.2.1 hd rfl (k p e s m args below meth c H locs ls B hH hS hl)
theorem s_l2i {x : Int64} (hd : decode M.2.1 pc = .ok (.l2i, 1)) (k : SW G M R mc ms cs sl Q (pc + 1) lo (.int x.toInt32 :: st) N I L P) : SW G M R mc ms cs sl Q pc lo (.long x :: st) N I L P :=
  fun p e s m args below meth c H locs ls B hH hS hl => lv_l2i B.1 B.2.1 hd rfl (k p e s m args below meth c H locs ls B hH hS hl)
theorem s_lcmp {x y : Int64} (hd : decode M.2.1 pc = .ok (.lcmp, 1)) (k : SW G M R mc ms cs sl Q (pc + 1) lo (.int (lg_cmp x y) :: st) N I L P) : SW G M R mc ms cs sl Q pc lo (.long y :: .long x :: st) N I L P :=
  fun p e s m args below meth c H locs ls B hH hS hl => W.lcmp B.1 B.2.1 hd (k p e s m args below meth c H locs ls B hH hS hl)
theorem s_dup {a : Value} (hd : decode M.2.1 pc = .ok (.dup, 1)) (ha : a.category = 1) (k : SW G M R mc ms cs sl Q (pc + 1) lo (a :: a :: st) N I L P) : SW G M R mc ms cs sl Q pc lo (a :: st) N I L P :=
  fun p e s m args below meth c H locs ls B hH hS hl => lv_dup B.1 B.2.1 hd ((p_v_cat G a).trans ha) (k p e s m args below meth c H locs ls B hH hS hl)
theorem s_pop {a : Value} (hd : decode M.2.1 pc = .ok (.pop, 1)) (ha : a.category = 1) (k : SW G M R mc ms cs sl Q (pc + 1) lo st N I L P) : SW G M R mc ms cs sl Q pc lo (a :: st) N I L P :=
  fun p e s m args below meth c H locs ls B hH hS hl => lv_pop B.1 B.2.1 hd ((p_v_cat G a).trans ha) (k p e s m args below meth c H locs ls B hH hS hl)
theorem s_dup_x1 {a b : Value} (hd : decode M.2.1 pc = .ok (.dup_x1, 1)) (ha : a.category = 1) (hb : b.category = 1) (k : SW G M R mc ms cs sl Q (pc + 1) lo (a :: b :: a :: st) N I L P) : SW G M R mc ms cs sl Q pc lo (a :: b :: st) N I L P :=
  fun p e s m args below meth c H locs ls B hH hS hl => lv_dup_x1 B.1 B.2.1 hd ((p_v_cat G a).trans ha) ((p_v_cat G b).trans hb) (k p e s m args below meth c H locs ls B hH hS hl)
theorem s_dup2_11 {a b : Value} (hd : decode M.2.1 pc = .ok (.dup2, 1)) (ha : a.category = 1) (hb : b.category = 1) (k : SW G M R mc ms cs sl Q (pc + 1) lo (a :: b :: a :: b :: st) N I L P) : SW G M R mc ms cs sl Q pc lo (a :: b :: st) N I L P :=
  fun p e s m args below meth c H locs ls B hH hS hl => lv_dup2_11 B.1 B.2.1 hd ((p_v_cat G a).trans ha) ((p_v_cat G b).trans hb) (k p e s m args below meth c H locs ls B hH hS hl)
theorem s_null  (hd : decode M.2.1 pc = .ok (.aconst_null, 1)) (k : SW G M R mc ms cs sl Q (pc + 1) lo (.null :: st) N I L P) : SW G M R mc ms cs sl Q pc lo st N I L P :=
  fun p e s m args below meth c H locs ls B hH hS hl => lv_null B.1 B.2.1 hd (k p e s m args below meth c H locs ls B hH hS hl)
theorem s_if_eq {x : Int32} {off : Int} {tgt : Nat} (hd : decode M.2.1 pc = .ok (.ifCond .eq off, 3)) (ht : (pc : Int) + off = (tgt : Int)) (kt : x = 0 → SW G M R mc ms cs sl Q tgt lo st N I L P) (kf : ¬ x = 0 → SW G M R mc ms cs sl Q (pc + 3) lo st N I L P) : SW G M R mc ms cs sl Q pc lo (.int x :: st) N I L P :=
  fun p e s m args below meth c H locs ls B hH hS hl => lv_if_eq B.1 B.2.1 hd ht (fun hc => kt hc p e s m args below meth c H locs ls B hH hS hl) (fun hc => kf hc p e s m args below meth c H locs ls B hH hS hl)
theorem s_icmp_eq {x y : Int32} {off : Int} {tgt : Nat} (hd : decode M.2.1 pc = .ok (.if_icmp .eq off, 3)) (ht : (pc : Int) + off = (tgt : Int)) (kt : x = y → SW G M R mc ms cs sl Q tgt lo st N I L P) (kf : ¬ x = y → SW G M R mc ms cs sl Q (pc + 3) lo st N I L P) : SW G M R mc ms cs sl Q pc lo (.int y :: .int x :: st) N I L P :=
  fun p e s m args below meth c H locs ls B hH hS hl => lv_icmp_eq B.1 B.2.1 hd ht (fun hc => kt hc p e s m args below meth c H locs ls B hH hS hl) (fun hc => kf hc p e s m args below meth c H locs ls B hH hS hl)
theorem s_if_ne {x : Int32} {off : Int} {tgt : Nat} (hd : decode M.2.1 pc = .ok (.ifCond .ne off, 3)) (ht : (pc : Int) + off = (tgt : Int)) (kt : ¬ x = 0 → SW G M R mc ms cs sl Q tgt lo st N I L P) (kf : x = 0 → SW G M R mc ms cs sl Q (pc + 3) lo st N I L P) : SW G M R mc ms cs sl Q pc lo (.int x :: st) N I L P :=
  fun p e s m args below meth c H locs ls B hH hS hl => lv_if_ne B.1 B.2.1 hd ht (fun hc => kt hc p e s m args below meth c H locs ls B hH hS hl) (fun hc => kf hc p e s m args below meth c H locs ls B hH hS hl)
theorem s_icmp_ne {x y : Int32} {off : Int} {tgt : Nat} (hd : decode M.2.1 pc = .ok (.if_icmp .ne off, 3)) (ht : (pc : Int) + off = (tgt : Int)) (kt : ¬ x = y → SW G M R mc ms cs sl Q tgt lo st N I L P) (kf : x = y → SW G M R mc ms cs sl Q (pc + 3) lo st N I L P) : SW G M R mc ms cs sl Q pc lo (.int y :: .int x :: st) N I L P :=
  fun p e s m args below meth c H locs ls B hH hS hl => lv_icmp_ne B.1 B.2.1 hd ht (fun hc => kt hc p e s m args below meth c H locs ls B hH hS hl) (fun hc => kf hc p e s m args below meth c H locs ls B hH hS hl)
theorem s_if_lt {x : Int32} {off : Int} {tgt : Nat} (hd : decode M.2.1 pc = .ok (.ifCond .lt off, 3)) (ht : (pc : Int) + off = (tgt : Int)) (kt : x < 0 → SW G M R mc ms cs sl Q tgt lo st N I L P) (kf : ¬ x < 0 → SW G M R mc ms cs sl Q (pc + 3) lo st N I L P) : SW G M R mc ms cs sl Q pc lo (.int x :: st) N I L P :=
  fun p e s m args below meth c H locs ls B hH hS hl => lv_if_lt B.1 B.2.1 hd ht (fun hc => kt hc p e s m args below meth c H locs ls B hH hS hl) (fun hc => kf hc p e s m args below meth c H locs ls B hH hS hl)
theorem s_icmp_lt {x y : Int32} {off : Int} {tgt : Nat} (hd : decode M.2.1 pc = .ok (.if_icmp .lt off, 3)) (ht : (pc : Int) + off = (tgt : Int)) (kt : x < y → SW G M R mc ms cs sl Q tgt lo st N I L P) (kf : ¬ x < y → SW G M R mc ms cs sl Q (pc + 3) lo st N I L P) : SW G M R mc ms cs sl Q pc lo (.int y :: .int x :: st) N I L P :=
  fun p e s m args below meth c H locs ls B hH hS hl => lv_icmp_lt B.1 B.2.1 hd ht (fun hc => kt hc p e s m args below meth c H locs ls B hH hS hl) (fun hc => kf hc p e s m args below meth c H locs ls B hH hS hl)
theorem s_if_ge {x : Int32} {off : Int} {tgt : Nat} (hd : decode M.2.1 pc = .ok (.ifCond .ge off, 3)) (ht : (pc : Int) + off = (tgt : Int)) (kt : 0 ≤ x → SW G M R mc ms cs sl Q tgt lo st N I L P) (kf : ¬ 0 ≤ x → SW G M R mc ms cs sl Q (pc + 3) lo st N I L P) : SW G M R mc ms cs sl Q pc lo (.int x :: st) N I L P :=
  fun p e s m args below meth c H locs ls B hH hS hl => lv_if_ge B.1 B.2.1 hd ht (fun hc => kt hc p e s m args below meth c H locs ls B hH hS hl) (fun hc => kf hc p e s m args below meth c H locs ls B hH hS hl)
theorem s_icmp_ge {x y : Int32} {off : Int} {tgt : Nat} (hd : decode M.2.1 pc = .ok (.if_icmp .ge off, 3)) (ht : (pc : Int) + off = (tgt : Int)) (kt : y ≤ x → SW G M R mc ms cs sl Q tgt lo st N I L P) (kf : ¬ y ≤ x → SW G M R mc ms cs sl Q (pc + 3) lo st N I L P) : SW G M R mc ms cs sl Q pc lo (.int y :: .int x :: st) N I L P :=
  fun p e s m args below meth c H locs ls B hH hS hl => lv_icmp_ge B.1 B.2.1 hd ht (fun hc => kt hc p e s m args below meth c H locs ls B hH hS hl) (fun hc => kf hc p e s m args below meth c H locs ls B hH hS hl)
theorem s_if_gt {x : Int32} {off : Int} {tgt : Nat} (hd : decode M.2.1 pc = .ok (.ifCond .gt off, 3)) (ht : (pc : Int) + off = (tgt : Int)) (kt : 0 < x → SW G M R mc ms cs sl Q tgt lo st N I L P) (kf : ¬ 0 < x → SW G M R mc ms cs sl Q (pc + 3) lo st N I L P) : SW G M R mc ms cs sl Q pc lo (.int x :: st) N I L P :=
  fun p e s m args below meth c H locs ls B hH hS hl => lv_if_gt B.1 B.2.1 hd ht (fun hc => kt hc p e s m args below meth c H locs ls B hH hS hl) (fun hc => kf hc p e s m args below meth c H locs ls B hH hS hl)
theorem s_icmp_gt {x y : Int32} {off : Int} {tgt : Nat} (hd : decode M.2.1 pc = .ok (.if_icmp .gt off, 3)) (ht : (pc : Int) + off = (tgt : Int)) (kt : y < x → SW G M R mc ms cs sl Q tgt lo st N I L P) (kf : ¬ y < x → SW G M R mc ms cs sl Q (pc + 3) lo st N I L P) : SW G M R mc ms cs sl Q pc lo (.int y :: .int x :: st) N I L P :=
  fun p e s m args below meth c H locs ls B hH hS hl => lv_icmp_gt B.1 B.2.1 hd ht (fun hc => kt hc p e s m args below meth c H locs ls B hH hS hl) (fun hc => kf hc p e s m args below meth c H locs ls B hH hS hl)
theorem s_if_le {x : Int32} {off : Int} {tgt : Nat} (hd : decode M.2.1 pc = .ok (.ifCond .le off, 3)) (ht : (pc : Int) + off = (tgt : Int)) (kt : x ≤ 0 → SW G M R mc ms cs sl Q tgt lo st N I L P) (kf : ¬ x ≤ 0 → SW G M R mc ms cs sl Q (pc + 3) lo st N I L P) : SW G M R mc ms cs sl Q pc lo (.int x :: st) N I L P :=
  fun p e s m args below meth c H locs ls B hH hS hl => lv_if_le B.1 B.2.1 hd ht (fun hc => kt hc p e s m args below meth c H locs ls B hH hS hl) (fun hc => kf hc p e s m args below meth c H locs ls B hH hS hl)
theorem s_icmp_le {x y : Int32} {off : Int} {tgt : Nat} (hd : decode M.2.1 pc = .ok (.if_icmp .le off, 3)) (ht : (pc : Int) + off = (tgt : Int)) (kt : x ≤ y → SW G M R mc ms cs sl Q tgt lo st N I L P) (kf : ¬ x ≤ y → SW G M R mc ms cs sl Q (pc + 3) lo st N I L P) : SW G M R mc ms cs sl Q pc lo (.int y :: .int x :: st) N I L P :=
  fun p e s m args below meth c H locs ls B hH hS hl => lv_icmp_le B.1 B.2.1 hd ht (fun hc => kt hc p e s m args below meth c H locs ls B hH hS hl) (fun hc => kf hc p e s m args below meth c H locs ls B hH hS hl)
theorem s_goto {off : Int} {tgt : Nat} (hd : decode M.2.1 pc = .ok (.goto off, 3)) (ht : (pc : Int) + off = (tgt : Int)) (k : SW G M R mc ms cs sl Q tgt lo st N I L P) : SW G M R mc ms cs sl Q pc lo st N I L P :=
  fun p e s m args below meth c H locs ls B hH hS hl => lv_goto B.1 B.2.1 hd ht (k p e s m args below meth c H locs ls B hH hS hl)
theorem s_ifnonnull {x : Nat} {off : Int} {tgt : Nat} (hd : decode M.2.1 pc = .ok (.ifnonnull off, 3)) (ht : (pc : Int) + off = (tgt : Int)) (k : SW G M R mc ms cs sl Q tgt lo st N I L P) : SW G M R mc ms cs sl Q pc lo (.ref x :: st) N I L P :=
  fun p e s m args below meth c H locs ls B hH hS hl => lv_ifnonnull B.1 B.2.1 hd ht (k p e s m args below meth c H locs ls B hH hS hl)
theorem s_ifnull {x : Nat} {off : Int} (hd : decode M.2.1 pc = .ok (.ifnull off, 3)) (k : SW G M R mc ms cs sl Q (pc + 3) lo st N I L P) : SW G M R mc ms cs sl Q pc lo (.ref x :: st) N I L P :=
  fun p e s m args below meth c H locs ls B hH hS hl => lv_ifnull B.1 B.2.1 hd (k p e s m args below meth c H locs ls B hH hS hl)
theorem s_ifnullN {off : Int} {tgt : Nat} (hd : decode M.2.1 pc = .ok (.ifnull off, 3)) (ht : (pc : Int) + off = (tgt : Int)) (k : SW G M R mc ms cs sl Q tgt lo st N I L P) : SW G M R mc ms cs sl Q pc lo (.null :: st) N I L P :=
  fun p e s m args below meth c H locs ls B hH hS hl => lv_ifnullN B.1 B.2.1 hd ht (k p e s m args below meth c H locs ls B hH hS hl)
theorem s_ifnonnullN {off : Int} (hd : decode M.2.1 pc = .ok (.ifnonnull off, 3)) (k : SW G M R mc ms cs sl Q (pc + 3) lo st N I L P) : SW G M R mc ms cs sl Q pc lo (.null :: st) N I L P :=
  fun p e s m args below meth c H locs ls B hH hS hl => lv_ifnonnullN B.1 B.2.1 hd (k p e s m args below meth c H locs ls B hH hS hl)
theorem s_acmp_eq {x y : Nat} {off : Int} {tgt : Nat} (hd : decode M.2.1 pc = .ok (.if_acmp .eq off, 3)) (ht : (pc : Int) + off = (tgt : Int)) (hx : x < 1000000) (hy : y < 1000000) (kt : x = y → SW G M R mc ms cs sl Q tgt lo st N I L P) (kf : ¬ x = y → SW G M R mc ms cs sl Q (pc + 3) lo st N I L P) : SW G M R mc ms cs sl Q pc lo (.ref y :: .ref x :: st) N I L P :=
  fun p e s m args below meth c H locs ls B hH hS hl => lv_acmp_eq (rx := some (p_ad G x)) (ry := some (p_ad G y)) B.1 B.2.1 hd ht
    (fun hc => kt (by rw [p_ad_lo hx, p_ad_lo hy] at hc; have h2 := Option.some.inj hc; omega) p e s m args below meth c H locs ls B hH hS hl)
    (fun hc => kf (fun h2 => hc (by rw [h2])) p e s m args below meth c H locs ls B hH hS hl)
theorem s_lookup {dflt : Int} {ps : Array (Int × Int)} {len : Nat} {x : Int32} {off : Int} {tgt : Nat} (hd : decode M.2.1 pc = .ok (.lookupswitch dflt ps, len)) (hp : (ps.toList.zip (ps.toList.drop 1)).all (fun (a, next) => a.1 < next.1) = true) (ho : Op.lookupswitch.offset ps.toList dflt x.toInt = off) (ht : (pc : Int) + off = (tgt : Int)) (k : SW G M R mc ms cs sl Q tgt lo st N I L P) : SW G M R mc ms cs sl Q pc lo (.int x :: st) N I L P :=
  fun p e s m args below meth c H locs ls B hH hS hl => lv_lookup B.1 B.2.1 hd hp ho ht (k p e s m args below meth c H locs ls B hH hS hl)
theorem s_tableOut {dflt lw hi : Int} {offs : Array Int} {len : Nat} {x : Int32} {tgt : Nat} (hd : decode M.2.1 pc = .ok (.tableswitch dflt lw hi offs, len)) (h : x.toInt < lw ∨ hi < x.toInt) (ht : (pc : Int) + dflt = (tgt : Int)) (k : SW G M R mc ms cs sl Q tgt lo st N I L P) : SW G M R mc ms cs sl Q pc lo (.int x :: st) N I L P :=
  fun p e s m args below meth c H locs ls B hH hS hl => lv_tableOut B.1 B.2.1 hd h ht (k p e s m args below meth c H locs ls B hH hS hl)
theorem s_tableIn {dflt lw hi : Int} {offs : Array Int} {len : Nat} {x : Int32} {off : Int} {tgt : Nat} (hd : decode M.2.1 pc = .ok (.tableswitch dflt lw hi offs, len)) (h1 : ¬ x.toInt < lw) (h2 : ¬ hi < x.toInt) (ho : offs[(x.toInt - lw).toNat]? = some off) (ht : (pc : Int) + off = (tgt : Int)) (k : SW G M R mc ms cs sl Q tgt lo st N I L P) : SW G M R mc ms cs sl Q pc lo (.int x :: st) N I L P :=
  fun p e s m args below meth c H locs ls B hH hS hl => lv_tableIn B.1 B.2.1 hd h1 h2 ho ht (k p e s m args below meth c H locs ls B hH hS hl)
theorem s_ldc {index : Nat} {v : Int32} (hc : Cond.constant M.1.cls index v ∈ p_tbl) (hd : decode M.2.1 pc = .ok (.ldc index, 2)) (k : SW G M R mc ms cs sl Q (pc + 2) lo (.int v :: st) N I L P) : SW G M R mc ms cs sl Q pc lo st N I L P :=
  fun p e s m args below meth c H locs ls B hH hS hl => lv_ldc B.1 B.2.1 B.2.2.2.2.2.1 (B.2.2.2.2.2.2.2.1 _ hc) hd (k p e s m args below meth c H locs ls B hH hS hl)
theorem s_ldcw {index : Nat} {v : Int32} (hc : Cond.constant M.1.cls index v ∈ p_tbl) (hd : decode M.2.1 pc = .ok (.ldc_w index, 3)) (k : SW G M R mc ms cs sl Q (pc + 3) lo (.int v :: st) N I L P) : SW G M R mc ms cs sl Q pc lo st N I L P :=
  fun p e s m args below meth c H locs ls B hH hS hl => lv_ldcw B.1 B.2.1 B.2.2.2.2.2.1 (B.2.2.2.2.2.2.2.1 _ hc) hd (k p e s m args below meth c H locs ls B hH hS hl)
theorem s_ldc2 {index : Nat} {v : Int64} (hc : Cond.constantLong M.1.cls index v ∈ p_tbl) (hd : decode M.2.1 pc = .ok (.ldc2_w index, 3)) (k : SW G M R mc ms cs sl Q (pc + 3) lo (.long v :: st) N I L P) : SW G M R mc ms cs sl Q pc lo st N I L P :=
  fun p e s m args below meth c H locs ls B hH hS hl => lv_ldc2 B.1 B.2.1 B.2.2.2.2.2.1 (B.2.2.2.2.2.2.2.1 _ hc) hd (k p e s m args below meth c H locs ls B hH hS hl)
/-- a number on the stack gets a name -/
theorem s_topi {x : Int32} (k : ∀ y : Int32, y = x → SW G M R mc ms cs sl Q pc lo (.int y :: st) N I L P) : SW G M R mc ms cs sl Q pc lo (.int x :: st) N I L P := k x rfl
theorem s_topl {x : Int64} (k : ∀ y : Int64, y = x → SW G M R mc ms cs sl Q pc lo (.long y :: st) N I L P) : SW G M R mc ms cs sl Q pc lo (.long x :: st) N I L P := k x rfl
theorem s_ireturn {x : Int32} {ty : FieldType} (hd : decode M.2.1 pc = .ok (.ireturn, 1)) (hr : M.2.2.2 = some ty) (hn : narrow ty (.int x) = .int x) (hq : Q (some (.int x)) N I L P) : SW G M R mc ms mc ms Q pc lo [.int x] N I L P :=
  fun p e s m args below meth c H locs ls B hH hS hl => W.zret B.1 B.2.1 (B.2.2.2.1.trans hr) hn (fun t ht hW => ⟨⟨some (.int x), N, I, L, P, rfl, hq, by rw [ht]; exact hH⟩, fun q hq2 => by rw [ht]; exact hS.2.1 q (Nat.lt_of_lt_of_le hq2 B.2.2.2.2.2.2.2.2.2.1) (Nat.not_le.mpr hq2)⟩) hS.2.2 hd B.2.2.2.2.1
theorem s_lreturn {x : Int64} (hd : decode M.2.1 pc = .ok (.lreturn, 1)) (hr : M.2.2.2 = some .long) (hq : Q (some (.long x)) N I L P) : SW G M R mc ms mc ms Q pc lo [.long x] N I L P :=
  fun p e s m args below meth c H locs ls B hH hS hl => W.lret B.1 B.2.1 (B.2.2.2.1.trans hr) (fun t ht hW => ⟨⟨some (.long x), N, I, L, P, rfl, hq, by rw [ht]; exact hH⟩, fun q hq2 => by rw [ht]; exact hS.2.1 q (Nat.lt_of_lt_of_le hq2 B.2.2.2.2.2.2.2.2.2.1) (Nat.not_le.mpr hq2)⟩) hS.2.2 hd B.2.2.2.2.1
theorem s_return (hd : decode M.2.1 pc = .ok (.return_, 1)) (hr : M.2.2.2 = none) (hq : Q none N I L P) : SW G M R mc ms mc ms Q pc lo [] N I L P :=
  fun p e s m args below meth c H locs ls B hH hS hl => W.vret B.1 B.2.1 (B.2.2.2.1.trans hr) (fun t ht hW => ⟨⟨none, N, I, L, P, rfl, hq, by rw [ht]; exact hH⟩, fun q hq2 => by rw [ht]; exact hS.2.1 q (Nat.lt_of_lt_of_le hq2 B.2.2.2.2.2.2.2.2.2.1) (Nat.not_le.mpr hq2)⟩) hS.2.2 hd B.2.2.2.2.1
theorem s_areturn {x : Nat} {rt : FieldType} (hd : decode M.2.1 pc = .ok (.areturn, 1)) (hr : M.2.2.2 = some rt) (ho : (∃ n, rt = .object n) ∨ ∃ t, rt = .array t) (hq : Q (some (.ref x)) N I L P) : SW G M R mc ms mc ms Q pc lo [.ref x] N I L P :=
  fun p e s m args below meth c H locs ls B hH hS hl => W.aret B.1 B.2.1 (B.2.2.2.1.trans hr) ho (Or.inr ⟨_, rfl⟩) (fun t ht hW => ⟨⟨some (.ref x), N, I, L, P, rfl, hq, by rw [ht]; exact hH⟩, fun q hq2 => by rw [ht]; exact hS.2.1 q (Nat.lt_of_lt_of_le hq2 B.2.2.2.2.2.2.2.2.2.1) (Nat.not_le.mpr hq2)⟩) hS.2.2 hd B.2.2.2.2.1
/-- cells and slots are rounded up -/
theorem s_widen {c2 s2 : Nat} (h1 : cs ≤ c2) (h2 : sl ≤ s2) (k : SW G M R mc ms c2 s2 Q pc lo st N I L P) : SW G M R mc ms cs sl Q pc lo st N I L P :=
  fun p e s m args below meth c H locs ls B hH hS hl => W.widen h1 h2 (k p e s m args below meth c H locs ls B hH hS hl)
/-- fewer locals -/
theorem s_lo (ks : List Nat) (h : lv_pick lo ks = lo') (k : SW G M R mc ms cs sl Q pc lo' st N I L P) : SW G M R mc ms cs sl Q pc lo st N I L P :=
  fun p e s m args below meth c H locs ls B hH hS hl => k p e s m args below meth c H locs ls B hH hS ⟨hl.1, hl.2.1, fun q hq => by
    rw [← h] at hq
    obtain ⟨x, hx, rfl⟩ := List.mem_map.mp hq
    obtain ⟨j, -, hj⟩ := List.mem_filterMap.mp hx
    exact hl.2.2 _ (List.mem_map.mpr ⟨x, List.mem_of_getElem? hj, rfl⟩)⟩
end Rows

section JmRules
variable {I : List Nat} {X : jm_Ex} {d : Nat} {M : jm_MI} {pc n : Nat} {L : List (Option Value)} {S : List Value} {μ : jm_Mem} {Q : Option Value → jm_Mem → Prop}
theorem jm_iadd {x y : Int32} (hd : decode M.2.1 pc = .ok (.iadd, 1)) (hn : pc + 1 = n) (k : jm_J I X d M n L (.int (x + y) :: S) μ Q) : jm_J I X d M pc L (.int y :: .int x :: S) μ Q := by
  subst hn
  exact fun D ad cI cZ A p l e R s m args below meth c cells slots Qw H locs ls C Wd Ld K => lv_iadd C.1.1 C.1.2.1 hd (k D ad cI cZ A p l e R s m args below meth c cells slots Qw H locs ls C Wd Ld K)
theorem jm_isub {x y : Int32} (hd : decode M.2.1 pc = .ok (.isub, 1)) (hn : pc + 1 = n) (k : jm_J I X d M n L (.int (x - y) :: S) μ Q) : jm_J I X d M pc L (.int y :: .int x :: S) μ Q := by
  subst hn
  exact fun D ad cI cZ A p l e R s m args below meth c cells slots Qw H locs ls C Wd Ld K => lv_isub C.1.1 C.1.2.1 hd (k D ad cI cZ A p l e R s m args below meth c cells slots Qw H locs ls C Wd Ld K)
theorem jm_imul {x y : Int32} (hd : decode M.2.1 pc = .ok (.imul, 1)) (hn : pc + 1 = n) (k : jm_J I X d M n L (.int (x * y) :: S) μ Q) : jm_J I X d M pc L (.int y :: .int x :: S) μ Q := by
  subst hn
  exact fun D ad cI cZ A p l e R s m args below meth c cells slots Qw H locs ls C Wd Ld K => lv_imul C.1.1 C.1.2.1 hd (k D ad cI cZ A p l e R s m args below meth c cells slots Qw H locs ls C Wd Ld K)
theorem jm_iand {x y : Int32} (hd : decode M.2.1 pc = .ok (.iand, 1)) (hn : pc + 1 = n) (k : jm_J I X d M n L (.int (x &&& y) :: S) μ Q) : jm_J I X d M pc L (.int y :: .int x :: S) μ Q := by
  subst hn
  exact fun D ad cI cZ A p l e R s m args below meth c cells slots Qw H locs ls C Wd Ld K => lv_iand C.1.1 C.1.2.1 hd (k D ad cI cZ A p l e R s m args below meth c cells slots Qw H locs ls C Wd Ld K)
theorem jm_ishl {x y : Int32} (hd : decode M.2.1 pc = .ok (.ishl, 1)) (hn : pc + 1 = n) (k : jm_J I X d M n L (.int (x <<< (y &&& 31)) :: S) μ Q) : jm_J I X d M pc L (.int y :: .int x :: S) μ Q := by
  subst hn
  exact fun D ad cI cZ A p l e R s m args below meth c cells slots Qw H locs ls C Wd Ld K => lv_ishl C.1.1 C.1.2.1 hd (k D ad cI cZ A p l e R s m args below meth c cells slots Qw H locs ls C Wd Ld K)
theorem jm_ishr {x y : Int32} (hd : decode M.2.1 pc = .ok (.ishr, 1)) (hn : pc + 1 = n) (k : jm_J I X d M n L (.int (x >>> (y &&& 31)) :: S) μ Q) : jm_J I X d M pc L (.int y :: .int x :: S) μ Q := by
  subst hn
  exact fun D ad cI cZ A p l e R s m args below meth c cells slots Qw H locs ls C Wd Ld K => lv_ishr C.1.1 C.1.2.1 hd (k D ad cI cZ A p l e R s m args below meth c cells slots Qw H locs ls C Wd Ld K)
theorem jm_idiv {x y : Int32} (hd : decode M.2.1 pc = .ok (.idiv, 1)) (hn : pc + 1 = n) (hne : ¬ y = 0) (k : jm_J I X d M n L (.int (x / y) :: S) μ Q) : jm_J I X d M pc L (.int y :: .int x :: S) μ Q := by
  subst hn
  exact fun D ad cI cZ A p l e R s m args below meth c cells slots Qw H locs ls C Wd Ld K => lv_idiv C.1.1 C.1.2.1 hd hne (k D ad cI cZ A p l e R s m args below meth c cells slots Qw H locs ls C Wd Ld K)
theorem jm_irem {x y : Int32} (hd : decode M.2.1 pc = .ok (.irem, 1)) (hn : pc + 1 = n) (hne : ¬ y = 0) (k : jm_J I X d M n L (.int (x - x / y * y) :: S) μ Q) : jm_J I X d M pc L (.int y :: .int x :: S) μ Q := by
  subst hn
  exact fun D ad cI cZ A p l e R s m args below meth c cells slots Qw H locs ls C Wd Ld K => lv_irem C.1.1 C.1.2.1 hd hne (k D ad cI cZ A p l e R s m args below meth c cells slots Qw H locs ls C Wd Ld K)
theorem jm_ineg {x : Int32} (hd : decode M.2.1 pc = .ok (.ineg, 1)) (hn : pc + 1 = n) (k : jm_J I X d M n L (.int (0 - x) :: S) μ Q) : jm_J I X d M pc L (.int x :: S) μ Q := by
  subst hn
  exact fun D ad cI cZ A p l e R s m args below meth c cells slots Qw H locs ls C Wd Ld K => lv_ineg C.1.1 C.1.2.1 hd (k D ad cI cZ A p l e R s m args below meth c cells slots Qw H locs ls C Wd Ld K)
theorem jm_ladd {x y : Int64} (hd : decode M.2.1 pc = .ok (.ladd, 1)) (hn : pc + 1 = n) (k : jm_J I X d M n L (.long (x + y) :: S) μ Q) : jm_J I X d M pc L (.long y :: .long x :: S) μ Q := by
  subst hn
  exact fun D ad cI cZ A p l e R s m args below meth c cells slots Qw H locs ls C Wd Ld K => lv_ladd C.1.1 C.1.2.1 hd (k D ad cI cZ A p l e R s m args below meth c cells slots Qw H locs ls C Wd Ld K)
theorem jm_lmul {x y : Int64} (hd : decode M.2.1 pc = .ok (.lmul, 1)) (hn : pc + 1 = n) (k : jm_J I X d M n L (.long (x * y) :: S) μ Q) : jm_J I X d M pc L (.long y :: .long x :: S) μ Q := by
  subst hn
  exact fun D ad cI cZ A p l e R s m args below meth c cells slots Qw H locs ls C Wd Ld K => lv_lmul C.1.1 C.1.2.1 hd (k D ad cI cZ A p l e R s m args below meth c cells slots Qw H locs ls C Wd Ld K)
theorem jm_lcmp {x y : Int64} (hd : decode M.2.1 pc = .ok (.lcmp, 1)) (hn : pc + 1 = n) (k : jm_J I X d M n L (.int (lg_cmp x y) :: S) μ Q) : jm_J I X d M pc L (.long y :: .long x :: S) μ Q := by
  subst hn
  exact fun D ad cI cZ A p l e R s m args below meth c cells slots Qw H locs ls C Wd Ld K => W.lcmp C.1.1 C.1.2.1 hd (k D ad cI cZ A p l e R s m args below meth c cells slots Qw H locs ls C Wd Ld K)
theorem jm_i2l {x : Int32} (hd : decode M.2.1 pc = .ok (.i2l, 1)) (hn : pc + 1 = n) (k : jm_J I X d M n L (.long x.toInt64 :: S) μ Q) : jm_J I X d M pc L (.int x :: S) μ Q := by
  subst hn
  exact fun D ad cI cZ A p l e R s m args below meth c cells slots Qw H locs ls C Wd Ld K => lv_i2l C.1.1 C.1.2.1 hd rfl (k D ad cI cZ A p l e R s m args below meth c cells slots Qw H locs ls C Wd Ld K)
theorem jm_iconst {z : Int} (v : Int32) (hd : decode M.2.1 pc = .ok (.iconst z, 1)) (hn : pc + 1 = n) (hv : Int32.ofInt z = v) (k : jm_J I X d M n L (.int v :: S) μ Q) : jm_J I X d M pc L (S) μ Q := by
  subst hn
  exact fun D ad cI cZ A p l e R s m args below meth c cells slots Qw H locs ls C Wd Ld K => lv_iconst C.1.1 C.1.2.1 hd hv (k D ad cI cZ A p l e R s m args below meth c cells slots Qw H locs ls C Wd Ld K)
theorem jm_bipush {z : Int} (v : Int32) (hd : decode M.2.1 pc = .ok (.bipush z, 2)) (hn : pc + 2 = n) (hv : (Int8.ofInt z).toInt32 = v) (k : jm_J I X d M n L (.int v :: S) μ Q) : jm_J I X d M pc L (S) μ Q := by
  subst hn
  exact fun D ad cI cZ A p l e R s m args below meth c cells slots Qw H locs ls C Wd Ld K => lv_bipush C.1.1 C.1.2.1 hd hv (k D ad cI cZ A p l e R s m args below meth c cells slots Qw H locs ls C Wd Ld K)
theorem jm_sipush {z : Int} (v : Int32) (hd : decode M.2.1 pc = .ok (.sipush z, 3)) (hn : pc + 3 = n) (hv : (Int16.ofInt z).toInt32 = v) (k : jm_J I X d M n L (.int v :: S) μ Q) : jm_J I X d M pc L (S) μ Q := by
  subst hn
  exact fun D ad cI cZ A p l e R s m args below meth c cells slots Qw H locs ls C Wd Ld K => lv_sipush C.1.1 C.1.2.1 hd hv (k D ad cI cZ A p l e R s m args below meth c cells slots Qw H locs ls C Wd Ld K)
theorem jm_lconst {z : Fin 2} (v : Int64) (hd : decode M.2.1 pc = .ok (.lconst z, 1)) (hn : pc + 1 = n) (hv : Int64.ofNat (z : Nat) = v) (k : jm_J I X d M n L (.long v :: S) μ Q) : jm_J I X d M pc L (S) μ Q := by
  subst hn
  exact fun D ad cI cZ A p l e R s m args below meth c cells slots Qw H locs ls C Wd Ld K => lv_lconst C.1.1 C.1.2.1 hd hv (k D ad cI cZ A p l e R s m args below meth c cells slots Qw H locs ls C Wd Ld K)
theorem jm_ldc {ix : Nat} (v : Int32) (hd : decode M.2.1 pc = .ok (.ldc ix, 2)) (hn : pc + 2 = n) (hv : Cond.constant M.1.cls ix v ∈ jm_gw) (k : jm_J I X d M n L (.int v :: S) μ Q) : jm_J I X d M pc L (S) μ Q := by
  subst hn
  exact fun D ad cI cZ A p l e R s m args below meth c cells slots Qw H locs ls C Wd Ld K => lv_ldc C.1.1 C.1.2.1 C.1.2.2.2.1 (C.2.1 _ hv) hd (k D ad cI cZ A p l e R s m args below meth c cells slots Qw H locs ls C Wd Ld K)
theorem jm_ldc2 {ix : Nat} (v : Int64) (hd : decode M.2.1 pc = .ok (.ldc2_w ix, 3)) (hn : pc + 3 = n) (hv : Cond.constantLong M.1.cls ix v ∈ jm_gw) (k : jm_J I X d M n L (.long v :: S) μ Q) : jm_J I X d M pc L (S) μ Q := by
  subst hn
  exact fun D ad cI cZ A p l e R s m args below meth c cells slots Qw H locs ls C Wd Ld K => lv_ldc2 C.1.1 C.1.2.1 C.1.2.2.2.1 (C.2.1 _ hv) hd (k D ad cI cZ A p l e R s m args below meth c cells slots Qw H locs ls C Wd Ld K)
theorem jm_iload_n {k4 : Fin 4} {i : Nat} {x : Int32} (hd : decode M.2.1 pc = .ok (.iload_n k4, 1)) (hn : pc + 1 = n) (hi : (k4 : Nat) = i) (hl : L[i]? = some (some (.int x))) (k : jm_J I X d M n L (.int x :: S) μ Q) : jm_J I X d M pc L (S) μ Q := by
  subst hn
  exact fun D ad cI cZ A p l e R s m args below meth c cells slots Qw H locs ls C Wd Ld K => lv_iload_n C.1.1 C.1.2.1 hd hi (Ld.2.2 i _ hl) (k D ad cI cZ A p l e R s m args below meth c cells slots Qw H locs ls C Wd Ld K)
theorem jm_iload {i : Nat} {x : Int32} (hd : decode M.2.1 pc = .ok (.iload i, 2)) (hn : pc + 2 = n) (hl : L[i]? = some (some (.int x))) (k : jm_J I X d M n L (.int x :: S) μ Q) : jm_J I X d M pc L (S) μ Q := by
  subst hn
  exact fun D ad cI cZ A p l e R s m args below meth c cells slots Qw H locs ls C Wd Ld K => lv_iload C.1.1 C.1.2.1 hd (Ld.2.2 i _ hl) (k D ad cI cZ A p l e R s m args below meth c cells slots Qw H locs ls C Wd Ld K)
theorem jm_lload_n {k4 : Fin 4} {i : Nat} {x : Int64} (hd : decode M.2.1 pc = .ok (.lload_n k4, 1)) (hn : pc + 1 = n) (hi : (k4 : Nat) = i) (hl : L[i]? = some (some (.long x))) (k : jm_J I X d M n L (.long x :: S) μ Q) : jm_J I X d M pc L (S) μ Q := by
  subst hn
  exact fun D ad cI cZ A p l e R s m args below meth c cells slots Qw H locs ls C Wd Ld K => lv_lload_n C.1.1 C.1.2.1 hd hi (Ld.2.2 i _ hl) (k D ad cI cZ A p l e R s m args below meth c cells slots Qw H locs ls C Wd Ld K)
theorem jm_lload {i : Nat} {x : Int64} (hd : decode M.2.1 pc = .ok (.lload i, 2)) (hn : pc + 2 = n) (hl : L[i]? = some (some (.long x))) (k : jm_J I X d M n L (.long x :: S) μ Q) : jm_J I X d M pc L (S) μ Q := by
  subst hn
  exact fun D ad cI cZ A p l e R s m args below meth c cells slots Qw H locs ls C Wd Ld K => lv_lload C.1.1 C.1.2.1 hd (Ld.2.2 i _ hl) (k D ad cI cZ A p l e R s m args below meth c cells slots Qw H locs ls C Wd Ld K)
theorem jm_aload_n {k4 : Fin 4} {i : Nat} {x : Nat} (hd : decode M.2.1 pc = .ok (.aload_n k4, 1)) (hn : pc + 1 = n) (hi : (k4 : Nat) = i) (hl : L[i]? = some (some (.ref x))) (k : jm_J I X d M n L (.ref x :: S) μ Q) : jm_J I X d M pc L (S) μ Q := by
  subst hn
  exact fun D ad cI cZ A p l e R s m args below meth c cells slots Qw H locs ls C Wd Ld K => lv_aload_n C.1.1 C.1.2.1 hd hi (Ld.2.2 i _ hl) (k D ad cI cZ A p l e R s m args below meth c cells slots Qw H locs ls C Wd Ld K)
theorem jm_aload {i : Nat} {x : Nat} (hd : decode M.2.1 pc = .ok (.aload i, 2)) (hn : pc + 2 = n) (hl : L[i]? = some (some (.ref x))) (k : jm_J I X d M n L (.ref x :: S) μ Q) : jm_J I X d M pc L (S) μ Q := by
  subst hn
  exact fun D ad cI cZ A p l e R s m args below meth c cells slots Qw H locs ls C Wd Ld K => lv_aload C.1.1 C.1.2.1 hd (Ld.2.2 i _ hl) (k D ad cI cZ A p l e R s m args below meth c cells slots Qw H locs ls C Wd Ld K)
theorem jm_istore_n {k4 : Fin 4} {i : Nat} {x : Int32} (hd : decode M.2.1 pc = .ok (.istore_n k4, 1)) (hn : pc + 1 = n) (hi : (k4 : Nat) = i) (hb : Nat.blt i M.2.2.1 = true) (ho : jm_ok L i = true) (k : jm_J I X d M n (L.set i (some (.int x))) S μ Q) : jm_J I X d M pc L (.int x :: S) μ Q := by
  subst hn
  exact fun D ad cI cZ A p l e R s m args below meth c cells slots Qw H locs ls C Wd Ld K => lv_istore_n C.1.1 C.1.2.1 hd hi Ld.has (by simpa using hb) rfl (fun ls2 h2 => k D ad cI cZ A p l e R s m args below meth c cells slots Qw H locs ls2 C Wd (Ld.st1 (v := .int x) ho (by simpa using hb) h2) K)
theorem jm_istore {i : Nat} {x : Int32} (hd : decode M.2.1 pc = .ok (.istore i, 2)) (hn : pc + 2 = n) (hb : Nat.blt i M.2.2.1 = true) (ho : jm_ok L i = true) (k : jm_J I X d M n (L.set i (some (.int x))) S μ Q) : jm_J I X d M pc L (.int x :: S) μ Q := by
  subst hn
  exact fun D ad cI cZ A p l e R s m args below meth c cells slots Qw H locs ls C Wd Ld K => lv_istore C.1.1 C.1.2.1 hd Ld.has (by simpa using hb) rfl (fun ls2 h2 => k D ad cI cZ A p l e R s m args below meth c cells slots Qw H locs ls2 C Wd (Ld.st1 (v := .int x) ho (by simpa using hb) h2) K)
theorem jm_astore_n {k4 : Fin 4} {i : Nat} {x : Nat} (hd : decode M.2.1 pc = .ok (.astore_n k4, 1)) (hn : pc + 1 = n) (hi : (k4 : Nat) = i) (hb : Nat.blt i M.2.2.1 = true) (ho : jm_ok L i = true) (k : jm_J I X d M n (L.set i (some (.ref x))) S μ Q) : jm_J I X d M pc L (.ref x :: S) μ Q := by
  subst hn
  exact fun D ad cI cZ A p l e R s m args below meth c cells slots Qw H locs ls C Wd Ld K => lv_astore_n C.1.1 C.1.2.1 hd hi Ld.has (by simpa using hb) rfl (fun ls2 h2 => k D ad cI cZ A p l e R s m args below meth c cells slots Qw H locs ls2 C Wd (Ld.st1 (v := .ref x) ho (by simpa using hb) h2) K)
theorem jm_astore {i : Nat} {x : Nat} (hd : decode M.2.1 pc = .ok (.astore i, 2)) (hn : pc + 2 = n) (hb : Nat.blt i M.2.2.1 = true) (ho : jm_ok L i = true) (k : jm_J I X d M n (L.set i (some (.ref x))) S μ Q) : jm_J I X d M pc L (.ref x :: S) μ Q := by
  subst hn
  exact fun D ad cI cZ A p l e R s m args below meth c cells slots Qw H locs ls C Wd Ld K => lv_astore C.1.1 C.1.2.1 hd Ld.has (by simpa using hb) rfl (fun ls2 h2 => k D ad cI cZ A p l e R s m args below meth c cells slots Qw H locs ls2 C Wd (Ld.st1 (v := .ref x) ho (by simpa using hb) h2) K)
theorem jm_lstore_n {k4 : Fin 4} {i : Nat} {x : Int64} (hd : decode M.2.1 pc = .ok (.lstore_n k4, 1)) (hn : pc + 1 = n) (hi : (k4 : Nat) = i) (hb : Nat.blt (i + 1) M.2.2.1 = true) (ho : jm_ok L i = true) (k : jm_J I X d M n ((L.set i (some (.long x))).set (i + 1) none) S μ Q) : jm_J I X d M pc L (.long x :: S) μ Q := by
  subst hn
  exact fun D ad cI cZ A p l e R s m args below meth c cells slots Qw H locs ls C Wd Ld K => lv_lstore_n C.1.1 C.1.2.1 hd hi Ld.has (by simpa using hb) rfl (fun ls2 h2 => k D ad cI cZ A p l e R s m args below meth c cells slots Qw H locs ls2 C Wd (Ld.st2 (v := .long x) ho (by simpa using hb) h2) K)
theorem jm_lstore {i : Nat} {x : Int64} (hd : decode M.2.1 pc = .ok (.lstore i, 2)) (hn : pc + 2 = n) (hb : Nat.blt (i + 1) M.2.2.1 = true) (ho : jm_ok L i = true) (k : jm_J I X d M n ((L.set i (some (.long x))).set (i + 1) none) S μ Q) : jm_J I X d M pc L (.long x :: S) μ Q := by
  subst hn
  exact fun D ad cI cZ A p l e R s m args below meth c cells slots Qw H locs ls C Wd Ld K => lv_lstore C.1.1 C.1.2.1 hd Ld.has (by simpa using hb) rfl (fun ls2 h2 => k D ad cI cZ A p l e R s m args below meth c cells slots Qw H locs ls2 C Wd (Ld.st2 (v := .long x) ho (by simpa using hb) h2) K)
theorem jm_iinc {i : Nat} {z : Int} {x : Int32} (v : Int32) (hd : decode M.2.1 pc = .ok (.iinc i z, 3)) (hn : pc + 3 = n) (hl : L[i]? = some (some (.int x))) (hv : Int32.ofInt z = v) (hb : Nat.blt i M.2.2.1 = true) (ho : jm_ok L i = true) (k : jm_J I X d M n (L.set i (some (.int (x + v)))) S μ Q) : jm_J I X d M pc L S μ Q := by
  subst hn
  subst hv
  refine fun D ad cI cZ A p l e R s m args below meth c cells slots Qw H locs ls C Wd Ld K => ?_
  obtain ⟨q, hq⟩ := List.getElem?_of_mem (jm_as_in (ad := ad) L 0 i _ hl)
  rw [Nat.zero_add] at hq
  exact lv_iinc C.1.1 C.1.2.1 hd Ld.has hq rfl (by simpa using hb) rfl (fun ls2 h2 => k D ad cI cZ A p l e R s m args below meth c cells slots Qw H locs ls2 C Wd (Ld.st1 (v := .int (x + Int32.ofInt z)) ho (by simpa using hb) h2) K)
theorem jm_dup {v : Value} (hd : decode M.2.1 pc = .ok (.dup, 1)) (hn : pc + 1 = n) (hc : v.category = 1) (k : jm_J I X d M n L (v :: v :: S) μ Q) : jm_J I X d M pc L (v :: S) μ Q := by
  subst hn
  exact fun D ad cI cZ A p l e R s m args below meth c cells slots Qw H locs ls C Wd Ld K => lv_dup C.1.1 C.1.2.1 hd ((jm_cat ad v).trans hc) (k D ad cI cZ A p l e R s m args below meth c cells slots Qw H locs ls C Wd Ld K)
theorem jm_pop {v : Value} (hd : decode M.2.1 pc = .ok (.pop, 1)) (hn : pc + 1 = n) (hc : v.category = 1) (k : jm_J I X d M n L S μ Q) : jm_J I X d M pc L (v :: S) μ Q := by
  subst hn
  exact fun D ad cI cZ A p l e R s m args below meth c cells slots Qw H locs ls C Wd Ld K => lv_pop C.1.1 C.1.2.1 hd ((jm_cat ad v).trans hc) (k D ad cI cZ A p l e R s m args below meth c cells slots Qw H locs ls C Wd Ld K)
theorem jm_dup2 {v w : Value} (hd : decode M.2.1 pc = .ok (.dup2, 1)) (hn : pc + 1 = n) (hc : v.category = 1) (hc2 : w.category = 1) (k : jm_J I X d M n L (v :: w :: v :: w :: S) μ Q) : jm_J I X d M pc L (v :: w :: S) μ Q := by
  subst hn
  exact fun D ad cI cZ A p l e R s m args below meth c cells slots Qw H locs ls C Wd Ld K => lv_dup2_11 C.1.1 C.1.2.1 hd ((jm_cat ad v).trans hc) ((jm_cat ad w).trans hc2) (k D ad cI cZ A p l e R s m args below meth c cells slots Qw H locs ls C Wd Ld K)
theorem jm_icmp_eq {x y : Int32} {off : Int} {tgt : Nat} (hd : decode M.2.1 pc = .ok (.if_icmp .eq off, 3)) (ht : (pc : Int) + off = (tgt : Int)) (hn : pc + 3 = n) (kt : x = y → jm_J I X d M tgt L S μ Q) (kf : ¬ x = y → jm_J I X d M n L S μ Q) : jm_J I X d M pc L (.int y :: .int x :: S) μ Q := by
  subst hn
  exact fun D ad cI cZ A p l e R s m args below meth c cells slots Qw H locs ls C Wd Ld K => lv_icmp_eq C.1.1 C.1.2.1 hd ht (fun h => kt h D ad cI cZ A p l e R s m args below meth c cells slots Qw H locs ls C Wd Ld K) (fun h => kf h D ad cI cZ A p l e R s m args below meth c cells slots Qw H locs ls C Wd Ld K)
theorem jm_if_eq {x : Int32} {off : Int} {tgt : Nat} (hd : decode M.2.1 pc = .ok (.ifCond .eq off, 3)) (ht : (pc : Int) + off = (tgt : Int)) (hn : pc + 3 = n) (kt : x = 0 → jm_J I X d M tgt L S μ Q) (kf : ¬ x = 0 → jm_J I X d M n L S μ Q) : jm_J I X d M pc L (.int x :: S) μ Q := by
  subst hn
  exact fun D ad cI cZ A p l e R s m args below meth c cells slots Qw H locs ls C Wd Ld K => lv_if_eq C.1.1 C.1.2.1 hd ht (fun h => kt h D ad cI cZ A p l e R s m args below meth c cells slots Qw H locs ls C Wd Ld K) (fun h => kf h D ad cI cZ A p l e R s m args below meth c cells slots Qw H locs ls C Wd Ld K)
theorem jm_icmp_ne {x y : Int32} {off : Int} {tgt : Nat} (hd : decode M.2.1 pc = .ok (.if_icmp .ne off, 3)) (ht : (pc : Int) + off = (tgt : Int)) (hn : pc + 3 = n) (kt : ¬ x = y → jm_J I X d M tgt L S μ Q) (kf : x = y → jm_J I X d M n L S μ Q) : jm_J I X d M pc L (.int y :: .int x :: S) μ Q := by
  subst hn
  exact fun D ad cI cZ A p l e R s m args below meth c cells slots Qw H locs ls C Wd Ld K => lv_icmp_ne C.1.1 C.1.2.1 hd ht (fun h => kt h D ad cI cZ A p l e R s m args below meth c cells slots Qw H locs ls C Wd Ld K) (fun h => kf h D ad cI cZ A p l e R s m args below meth c cells slots Qw H locs ls C Wd Ld K)
theorem jm_if_ne {x : Int32} {off : Int} {tgt : Nat} (hd : decode M.2.1 pc = .ok (.ifCond .ne off, 3)) (ht : (pc : Int) + off = (tgt : Int)) (hn : pc + 3 = n) (kt : ¬ x = 0 → jm_J I X d M tgt L S μ Q) (kf : x = 0 → jm_J I X d M n L S μ Q) : jm_J I X d M pc L (.int x :: S) μ Q := by
  subst hn
  exact fun D ad cI cZ A p l e R s m args below meth c cells slots Qw H locs ls C Wd Ld K => lv_if_ne C.1.1 C.1.2.1 hd ht (fun h => kt h D ad cI cZ A p l e R s m args below meth c cells slots Qw H locs ls C Wd Ld K) (fun h => kf h D ad cI cZ A p l e R s m args below meth c cells slots Qw H locs ls C Wd Ld K)
theorem jm_icmp_lt {x y : Int32} {off : Int} {tgt : Nat} (hd : decode M.2.1 pc = .ok (.if_icmp .lt off, 3)) (ht : (pc : Int) + off = (tgt : Int)) (hn : pc + 3 = n) (kt : x < y → jm_J I X d M tgt L S μ Q) (kf : ¬ x < y → jm_J I X d M n L S μ Q) : jm_J I X d M pc L (.int y :: .int x :: S) μ Q := by
  subst hn
  exact fun D ad cI cZ A p l e R s m args below meth c cells slots Qw H locs ls C Wd Ld K => lv_icmp_lt C.1.1 C.1.2.1 hd ht (fun h => kt h D ad cI cZ A p l e R s m args below meth c cells slots Qw H locs ls C Wd Ld K) (fun h => kf h D ad cI cZ A p l e R s m args below meth c cells slots Qw H locs ls C Wd Ld K)
theorem jm_if_lt {x : Int32} {off : Int} {tgt : Nat} (hd : decode M.2.1 pc = .ok (.ifCond .lt off, 3)) (ht : (pc : Int) + off = (tgt : Int)) (hn : pc + 3 = n) (kt : x < 0 → jm_J I X d M tgt L S μ Q) (kf : ¬ x < 0 → jm_J I X d M n L S μ Q) : jm_J I X d M pc L (.int x :: S) μ Q := by
  subst hn
  exact fun D ad cI cZ A p l e R s m args below meth c cells slots Qw H locs ls C Wd Ld K => lv_if_lt C.1.1 C.1.2.1 hd ht (fun h => kt h D ad cI cZ A p l e R s m args below meth c cells slots Qw H locs ls C Wd Ld K) (fun h => kf h D ad cI cZ A p l e R s m args below meth c cells slots Qw H locs ls C Wd Ld K)
theorem jm_icmp_ge {x y : Int32} {off : Int} {tgt : Nat} (hd : decode M.2.1 pc = .ok (.if_icmp .ge off, 3)) (ht : (pc : Int) + off = (tgt : Int)) (hn : pc + 3 = n) (kt : y ≤ x → jm_J I X d M tgt L S μ Q) (kf : ¬ y ≤ x → jm_J I X d M n L S μ Q) : jm_J I X d M pc L (.int y :: .int x :: S) μ Q := by
  subst hn
  exact fun D ad cI cZ A p l e R s m args below meth c cells slots Qw H locs ls C Wd Ld K => lv_icmp_ge C.1.1 C.1.2.1 hd ht (fun h => kt h D ad cI cZ A p l e R s m args below meth c cells slots Qw H locs ls C Wd Ld K) (fun h => kf h D ad cI cZ A p l e R s m args below meth c cells slots Qw H locs ls C Wd Ld K)
theorem jm_if_ge {x : Int32} {off : Int} {tgt : Nat} (hd : decode M.2.1 pc = .ok (.ifCond .ge off, 3)) (ht : (pc : Int) + off = (tgt : Int)) (hn : pc + 3 = n) (kt : 0 ≤ x → jm_J I X d M tgt L S μ Q) (kf : ¬ 0 ≤ x → jm_J I X d M n L S μ Q) : jm_J I X d M pc L (.int x :: S) μ Q := by
  subst hn
  exact fun D ad cI cZ A p l e R s m args below meth c cells slots Qw H locs ls C Wd Ld K => lv_if_ge C.1.1 C.1.2.1 hd ht (fun h => kt h D ad cI cZ A p l e R s m args below meth c cells slots Qw H locs ls C Wd Ld K) (fun h => kf h D ad cI cZ A p l e R s m args below meth c cells slots Qw H locs ls C Wd Ld K)
theorem jm_icmp_gt {x y : Int32} {off : Int} {tgt : Nat} (hd : decode M.2.1 pc = .ok (.if_icmp .gt off, 3)) (ht : (pc : Int) + off = (tgt : Int)) (hn : pc + 3 = n) (kt : y < x → jm_J I X d M tgt L S μ Q) (kf : ¬ y < x → jm_J I X d M n L S μ Q) : jm_J I X d M pc L (.int y :: .int x :: S) μ Q := by
  subst hn
  exact fun D ad cI cZ A p l e R s m args below meth c cells slots Qw H locs ls C Wd Ld K => lv_icmp_gt C.1.1 C.1.2.1 hd ht (fun h => kt h D ad cI cZ A p l e R s m args below meth c cells slots Qw H locs ls C Wd Ld K) (fun h => kf h D ad cI cZ A p l e R s m args below meth c cells slots Qw H locs ls C Wd Ld K)
theorem jm_if_gt {x : Int32} {off : Int} {tgt : Nat} (hd : decode M.2.1 pc = .ok (.ifCond .gt off, 3)) (ht : (pc : Int) + off = (tgt : Int)) (hn : pc + 3 = n) (kt : 0 < x → jm_J I X d M tgt L S μ Q) (kf : ¬ 0 < x → jm_J I X d M n L S μ Q) : jm_J I X d M pc L (.int x :: S) μ Q := by
  subst hn
  exact fun D ad cI cZ A p l e R s m args below meth c cells slots Qw H locs ls C Wd Ld K => lv_if_gt C.1.1 C.1.2.1 hd ht (fun h => kt h D ad cI cZ A p l e R s m args below meth c cells slots Qw H locs ls C Wd Ld K) (fun h => kf h D ad cI cZ A p l e R s m args below meth c cells slots Qw H locs ls C Wd Ld K)
theorem jm_icmp_le {x y : Int32} {off : Int} {tgt : Nat} (hd : decode M.2.1 pc = .ok (.if_icmp .le off, 3)) (ht : (pc : Int) + off = (tgt : Int)) (hn : pc + 3 = n) (kt : x ≤ y → jm_J I X d M tgt L S μ Q) (kf : ¬ x ≤ y → jm_J I X d M n L S μ Q) : jm_J I X d M pc L (.int y :: .int x :: S) μ Q := by
  subst hn
  exact fun D ad cI cZ A p l e R s m args below meth c cells slots Qw H locs ls C Wd Ld K => lv_icmp_le C.1.1 C.1.2.1 hd ht (fun h => kt h D ad cI cZ A p l e R s m args below meth c cells slots Qw H locs ls C Wd Ld K) (fun h => kf h D ad cI cZ A p l e R s m args below meth c cells slots Qw H locs ls C Wd Ld K)
theorem jm_if_le {x : Int32} {off : Int} {tgt : Nat} (hd : decode M.2.1 pc = .ok (.ifCond .le off, 3)) (ht : (pc : Int) + off = (tgt : Int)) (hn : pc + 3 = n) (kt : x ≤ 0 → jm_J I X d M tgt L S μ Q) (kf : ¬ x ≤ 0 → jm_J I X d M n L S μ Q) : jm_J I X d M pc L (.int x :: S) μ Q := by
  subst hn
  exact fun D ad cI cZ A p l e R s m args below meth c cells slots Qw H locs ls C Wd Ld K => lv_if_le C.1.1 C.1.2.1 hd ht (fun h => kt h D ad cI cZ A p l e R s m args below meth c cells slots Qw H locs ls C Wd Ld K) (fun h => kf h D ad cI cZ A p l e R s m args below meth c cells slots Qw H locs ls C Wd Ld K)
theorem jm_goto {off : Int} (hd : decode M.2.1 pc = .ok (.goto off, 3)) (ht : (pc : Int) + off = (n : Int)) (k : jm_J I X d M n L S μ Q) : jm_J I X d M pc L S μ Q := 
  fun D ad cI cZ A p l e R s m args below meth c cells slots Qw H locs ls C Wd Ld K => lv_goto C.1.1 C.1.2.1 hd ht (k D ad cI cZ A p l e R s m args below meth c cells slots Qw H locs ls C Wd Ld K)
theorem jm_tabIn {dflt lo hi off : Int} {offs : Array Int} {len : Nat} {x : Int32} (hd : decode M.2.1 pc = .ok (.tableswitch dflt lo hi offs, len)) (h1 : ¬ x.toInt < lo) (h2 : ¬ hi < x.toInt) (ho : offs[(x.toInt - lo).toNat]? = some off) (ht : (pc : Int) + off = (n : Int)) (k : jm_J I X d M n L S μ Q) : jm_J I X d M pc L (.int x :: S) μ Q :=
  fun D ad cI cZ A p l e R s m args below meth c cells slots Qw H locs ls C Wd Ld K => lv_tableIn C.1.1 C.1.2.1 hd h1 h2 ho ht (k D ad cI cZ A p l e R s m args below meth c cells slots Qw H locs ls C Wd Ld K)
theorem jm_tabOut {dflt lo hi : Int} {offs : Array Int} {len : Nat} {x : Int32} (hd : decode M.2.1 pc = .ok (.tableswitch dflt lo hi offs, len)) (h : x.toInt < lo ∨ hi < x.toInt) (ht : (pc : Int) + dflt = (n : Int)) (k : jm_J I X d M n L S μ Q) : jm_J I X d M pc L (.int x :: S) μ Q :=
  fun D ad cI cZ A p l e R s m args below meth c cells slots Qw H locs ls C Wd Ld K => lv_tableOut C.1.1 C.1.2.1 hd h ht (k D ad cI cZ A p l e R s m args below meth c cells slots Qw H locs ls C Wd Ld K)
theorem jm_iret {x : Int32} {ty : FieldType} (hd : decode M.2.1 pc = .ok (.ireturn, 1)) (hr : M.2.2.2 = some ty) (hw : narrow ty (.int x) = .int x) (h : Q (some (.int x)) μ) : jm_J I X d M pc L [.int x] μ Q :=
  fun D ad cI cZ A p l e R s m args below meth c cells slots Qw H locs ls C Wd Ld K => K (some (.int x)) μ H locs ls pc h Wd (Or.inr (Or.inl ⟨x, ty, rfl, hr, hw, hd⟩))
theorem jm_lret {x : Int64} (hd : decode M.2.1 pc = .ok (.lreturn, 1)) (hr : M.2.2.2 = some .long) (h : Q (some (.long x)) μ) : jm_J I X d M pc L [.long x] μ Q :=
  fun D ad cI cZ A p l e R s m args below meth c cells slots Qw H locs ls C Wd Ld K => K (some (.long x)) μ H locs ls pc h Wd (Or.inr (Or.inr ⟨x, rfl, hr, hd⟩))
theorem jm_vret (hd : decode M.2.1 pc = .ok (.return_, 1)) (hr : M.2.2.2 = none) (h : Q none μ) : jm_J I X d M pc L [] μ Q :=
  fun D ad cI cZ A p l e R s m args below meth c cells slots Qw H locs ls C Wd Ld K => K none μ H locs ls pc h Wd (Or.inl ⟨rfl, hr, hd⟩)
theorem jm_iald {a n0 j : Nat} {i : Int32} (hd : decode M.2.1 pc = .ok (.iaload, 1)) (hn : pc + 1 = n) (hI : I.contains a = true) (hs : jm_sh a = .inl (false, n0)) (hl : n0 < 2 ^ 31) (hi : i = nI j) (hj : j < n0) (k : jm_J I X d M n L (.int (μ a j) :: S) μ Q) : jm_J I X d M pc L (.int i :: .ref a :: S) μ Q := by
  subst hn
  subst hi
  refine fun D ad cI cZ A p l e R s m args below meth c cells slots Qw H locs ls C Wd Ld K => ?_
  obtain ⟨q0, h1, h2⟩ := jm_ws_at (ad := ad) (cI := cI) (cZ := cZ) (μ := μ) hI
  rw [jm_ce_arr hs] at h2
  refine va_iald C.1.1 C.1.2.1 C.2.2.2.1 Wd.1 q0 0 h2 rfl (vp_in_nI hj hl) hd ?_
  rw [nI_clamp (Nat.lt_trans hj hl)]
  exact k D ad cI cZ A p l e R s m args below meth c cells slots Qw H locs ls C Wd Ld K
theorem jm_zald {a n0 j : Nat} {i : Int32} (hd : decode M.2.1 pc = .ok (.baload, 1)) (hn : pc + 1 = n) (hI : I.contains a = true) (hs : jm_sh a = .inl (true, n0)) (hl : n0 < 2 ^ 31) (hi : i = nI j) (hj : j < n0) (k : jm_J I X d M n L (.int (μ a j) :: S) μ Q) : jm_J I X d M pc L (.int i :: .ref a :: S) μ Q := by
  subst hn
  subst hi
  refine fun D ad cI cZ A p l e R s m args below meth c cells slots Qw H locs ls C Wd Ld K => ?_
  obtain ⟨q0, h1, h2⟩ := jm_ws_at (ad := ad) (cI := cI) (cZ := cZ) (μ := μ) hI
  rw [jm_ce_arr hs] at h2
  refine va_zald C.1.1 C.1.2.1 C.2.2.2.1 Wd.1 q0 1 h2 rfl (vp_in_nI hj hl) hd ?_
  rw [nI_clamp (Nat.lt_trans hj hl)]
  exact k D ad cI cZ A p l e R s m args below meth c cells slots Qw H locs ls C Wd Ld K
theorem jm_iast {a n0 j : Nat} {i x : Int32} (hd : decode M.2.1 pc = .ok (.iastore, 1)) (hn : pc + 1 = n) (hI : I.contains a = true) (hs : jm_sh a = .inl (false, n0)) (hl : n0 < 2 ^ 31) (hi : i = nI j) (hj : j < n0) (k : jm_J I X d M n L S (jm_set μ a j x) Q) : jm_J I X d M pc L (.int x :: .int i :: .ref a :: S) μ Q := by
  subst hn
  subst hi
  refine fun D ad cI cZ A p l e' R s m args below meth c cells slots Qw H locs ls C Wd Ld K => ?_
  obtain ⟨q0, h1, h2⟩ := jm_ws_at (ad := ad) (cI := cI) (cZ := cZ) (μ := μ) hI
  rw [jm_ce_arr hs] at h2
  refine va_iast C.1.1 C.1.2.1 C.2.2.2.1 Wd.1 Wd.2.1 Wd.2.2 q0 0 h2 rfl (vp_in_nI hj hl) hd (fun H1 locs1 p1 p2 p3 => ?_)
  have e : (jm_ws I ad cI cZ μ).set q0 (ad a, .inl (cI, n0, .inl (upd (μ a) (nI j).toNatClampNeg x))) = jm_ws I ad cI cZ (jm_set μ a j x) := by
    rw [← jm_ws_set Wd.2.1 h1 (μ' := jm_set μ a j x) jm_set_ne, jm_ce_arr hs, nI_clamp (Nat.lt_trans hj hl), jm_set_eq]
    rfl
  rw [show ((bif false then cZ else cI) = cI) from rfl, e] at p1 p2
  exact k D ad cI cZ A p l e' R s m args below meth c cells slots Qw H1 locs1 ls C ⟨p1, p2, p3⟩ Ld K
theorem jm_zast {a n0 j : Nat} {i x : Int32} (hd : decode M.2.1 pc = .ok (.bastore, 1)) (hn : pc + 1 = n) (hI : I.contains a = true) (hs : jm_sh a = .inl (true, n0)) (hl : n0 < 2 ^ 31) (hi : i = nI j) (hj : j < n0) (hx : vp_nar .boolean x = x) (k : jm_J I X d M n L S (jm_set μ a j x) Q) : jm_J I X d M pc L (.int x :: .int i :: .ref a :: S) μ Q := by
  subst hn
  subst hi
  refine fun D ad cI cZ A p l e' R s m args below meth c cells slots Qw H locs ls C Wd Ld K => ?_
  obtain ⟨q0, h1, h2⟩ := jm_ws_at (ad := ad) (cI := cI) (cZ := cZ) (μ := μ) hI
  rw [jm_ce_arr hs] at h2
  refine va_zast C.1.1 C.1.2.1 C.2.2.2.1 Wd.1 Wd.2.1 Wd.2.2 q0 1 h2 rfl (vp_in_nI hj hl) hd (fun H1 locs1 p1 p2 p3 => ?_)
  have e : (jm_ws I ad cI cZ μ).set q0 (ad a, .inl (cZ, n0, .inl (upd (μ a) (nI j).toNatClampNeg (vp_nar .boolean x)))) = jm_ws I ad cI cZ (jm_set μ a j x) := by
    rw [← jm_ws_set Wd.2.1 h1 (μ' := jm_set μ a j x) jm_set_ne, jm_ce_arr hs, nI_clamp (Nat.lt_trans hj hl), jm_set_eq, hx]
    rfl
  rw [show ((bif true then cZ else cI) = cZ) from rfl, e] at p1 p2
  exact k D ad cI cZ A p l e' R s m args below meth c cells slots Qw H1 locs1 ls C ⟨p1, p2, p3⟩ Ld K
theorem jm_alen {a n0 : Nat} {b : Bool} (hd : decode M.2.1 pc = .ok (.arraylength, 1)) (hn : pc + 1 = n) (hI : I.contains a = true) (hs : jm_sh a = .inl (b, n0)) (k : jm_J I X d M n L (.int (nI n0) :: S) μ Q) : jm_J I X d M pc L (.ref a :: S) μ Q := by
  subst hn
  refine fun D ad cI cZ A p l e R s m args below meth c cells slots Qw H locs ls C Wd Ld K => ?_
  obtain ⟨q0, h1, h2⟩ := jm_ws_at (ad := ad) (cI := cI) (cZ := cZ) (μ := μ) hI
  rw [jm_ce_arr hs] at h2
  cases b with
  | false => exact va_alen C.1.1 C.1.2.1 C.2.2.2.1 Wd.1 q0 0 h2 rfl rfl hd (k D ad cI cZ A p l e R s m args below meth c cells slots Qw H locs ls C Wd Ld K)
  | true => exact va_alen C.1.1 C.1.2.1 C.2.2.2.1 Wd.1 q0 1 h2 rfl rfl hd (k D ad cI cZ A p l e R s m args below meth c cells slots Qw H locs ls C Wd Ld K)
theorem jm_xld {a n0 j : Nat} {nm : Option String} {f : Nat → Int32} {i : Int32} (hd : decode M.2.1 pc = .ok (.iaload, 1)) (hn : pc + 1 = n) (hX : (a, nm, n0, f) ∈ X) (hl : n0 < 2 ^ 31) (hi : i = nI j) (hj : j < n0) (k : jm_J I X d M n L (.int (f j) :: S) μ Q) : jm_J I X d M pc L (.int i :: .ref a :: S) μ Q := by
  subst hn
  subst hi
  refine fun D ad cI cZ A p l e R s m args below meth c cells slots Qw H locs ls C Wd Ld K => ?_
  exact va_ti C.1.1 C.1.2.1 (C.2.2.2.2.2.1 _ hX).1 Wd.2.2 (vp_in_nI hj hl) (by rw [nI_clamp (Nat.lt_trans hj hl)]; rfl) hd (k D ad cI cZ A p l e R s m args below meth c cells slots Qw H locs ls C Wd Ld K)
theorem jm_xlen {a n0 : Nat} {nm : Option String} {f : Nat → Int32} (hd : decode M.2.1 pc = .ok (.arraylength, 1)) (hn : pc + 1 = n) (hX : (a, nm, n0, f) ∈ X) (k : jm_J I X d M n L (.int (nI n0) :: S) μ Q) : jm_J I X d M pc L (.ref a :: S) μ Q := by
  subst hn
  exact fun D ad cI cZ A p l e R s m args below meth c cells slots Qw H locs ls C Wd Ld K => va_tlen C.1.1 C.1.2.1 (C.2.2.2.2.2.1 _ hX).1 Wd.2.2 rfl hd (k D ad cI cZ A p l e R s m args below meth c cells slots Qw H locs ls C Wd Ld K)
theorem jm_gets {a n0 ix : Nat} {nm host : String} {f : Nat → Int32} (hd : decode M.2.1 pc = .ok (.getstatic ix, 3)) (hn : pc + 3 = n) (hX : (a, some nm, n0, f) ∈ X) (hl : Cond.fieldLinkNest M.1.cls ix RX6 nm "[I" host ∈ jm_nw) (k : jm_J I X d M n L (.ref a :: S) μ Q) : jm_J I X d M pc L S μ Q := by
  subst hn
  exact fun D ad cI cZ A p l e R s m args below meth c cells slots Qw H locs ls C Wd Ld K => va_getsN C.1.1 C.1.2.1 ((C.2.2.2.2.2.1 _ hX).2 nm rfl) Wd.2.2 C.1.2.2.2.1 (va_Nw.use rfl (C.2.2.1 _ hl)) (fun _ h => h) hd (k D ad cI cZ A p l e R s m args below meth c cells slots Qw H locs ls C Wd Ld K)
/-- a field's evidence: in class own's pool, ix names slot k of class number ci -/
def jm_FE (own : String) (ix ci k : Nat) : Prop := ∃ (C : String) (T : u_T) (N : Nat), vwCl[ci]? = some (C, T, N) ∧ k < N ∧ (∀ w ∈ u_ws C T N, w ∈ jm_gw) ∧ (T k).1 = C ∧ (Cond.fieldLink own ix C (T k).2.1 (T k).2.2.1 ∈ jm_gw ∨ ∃ host, Cond.fieldLinkNest own ix C (T k).2.1 (T k).2.2.1 host ∈ jm_nw)
def jm_PE (own : String) (ix ci k : Nat) : Prop := ∃ (C : String) (T : u_T) (N : Nat) (ty0 : Nat → FieldType), vwCl[ci]? = some (C, T, N) ∧ k < N ∧ (∀ w ∈ u_ws C T N, w ∈ jm_gw) ∧ (T k).1 = C ∧ (Cond.fieldLink own ix C (T k).2.1 (T k).2.2.1 ∈ jm_gw ∨ ∃ host, Cond.fieldLinkNest own ix C (T k).2.1 (T k).2.2.1 host ∈ jm_nw) ∧ (∀ k, k < N → parseFieldDescriptor (T k).2.2.1 = some (ty0 k)) ∧ (∀ a, a < N → ∀ b, b < N → a ≠ b → (T a).2.1 ≠ (T b).2.1) ∧ (T k).2.2.2 = false ∧ parseFieldDescriptor (T k).2.2.1 = some .int
theorem jm_getf {a ix ci kf : Nat} {fl : List (Option Nat)} {o : Option Nat} {v : Value} (hd : decode M.2.1 pc = .ok (.getfield ix, 3)) (hn : pc + 3 = n) (hf : jm_FE M.1.cls ix ci kf) (hI : I.contains a = true) (hs : jm_sh a = .inr (ci, fl)) (ho : fl[kf]? = some o) (hv : ∀ ad : Nat → Nat, jm_ov ad (μ a kf) o = jm_cv ad v) (k : jm_J I X d M n L (v :: S) μ Q) : jm_J I X d M pc L (.ref a :: S) μ Q := by
  subst hn
  refine fun D ad cI cZ A p l e R s m args below meth c cells slots Qw H locs ls C Wd Ld K => ?_
  obtain ⟨q0, h1, h2⟩ := jm_ws_at (ad := ad) (cI := cI) (cZ := cZ) (μ := μ) hI
  rw [jm_ce_obj hs] at h2
  obtain ⟨C0, T, N, hc, hk, hin, hT, hl⟩ := hf
  have hg := jm_fl_get (ad := ad) (f := μ a) fl 0 kf o ho
  rw [Nat.zero_add, hv ad] at hg
  rcases hl with hl | ⟨host, hl⟩
  · exact va_get C.1.1 C.1.2.1 (Ts := jm_gw) C.2.1 hin C.1.2.2.2.1 C.2.2.2.1 Wd.1 q0 h2 hc kf hk (C.2.1 _ hl) (fun x hx => by rw [hT] at hx; exact hx) hg hd (k D ad cI cZ A p l e R s m args below meth c cells slots Qw H locs ls C Wd Ld K)
  · exact va_getN C.1.1 C.1.2.1 (Ts := jm_gw) C.2.1 hin C.1.2.2.2.1 C.2.2.2.1 Wd.1 q0 h2 hc kf hk (va_Nw.use rfl (C.2.2.1 _ hl)) (fun x hx => by rw [hT] at hx; exact hx) hg hd (k D ad cI cZ A p l e R s m args below meth c cells slots Qw H locs ls C Wd Ld K)
theorem jm_getr {a ix ci kf j : Nat} {fl : List (Option Nat)} (hd : decode M.2.1 pc = .ok (.getfield ix, 3)) (hn : pc + 3 = n) (hf : jm_FE M.1.cls ix ci kf) (hI : I.contains a = true) (hs : jm_sh a = .inr (ci, fl)) (ho : fl[kf]? = some (some j)) (k : jm_J I X d M n L (.ref j :: S) μ Q) : jm_J I X d M pc L (.ref a :: S) μ Q := jm_getf hd hn hf hI hs ho (fun _ => rfl) k
theorem jm_geti {a ix ci kf : Nat} {fl : List (Option Nat)} (hd : decode M.2.1 pc = .ok (.getfield ix, 3)) (hn : pc + 3 = n) (hf : jm_FE M.1.cls ix ci kf) (hI : I.contains a = true) (hs : jm_sh a = .inr (ci, fl)) (ho : fl[kf]? = some none) (k : jm_J I X d M n L (.int (μ a kf) :: S) μ Q) : jm_J I X d M pc L (.ref a :: S) μ Q := jm_getf hd hn hf hI hs ho (fun _ => rfl) k
theorem jm_puti {a ix ci kf : Nat} {fl : List (Option Nat)} {x : Int32} (hd : decode M.2.1 pc = .ok (.putfield ix, 3)) (hn : pc + 3 = n) (hf : jm_PE M.1.cls ix ci kf) (hI : I.contains a = true) (hs : jm_sh a = .inr (ci, fl)) (ho : fl[kf]? = some none) (k : jm_J I X d M n L S (jm_set μ a kf x) Q) : jm_J I X d M pc L (.int x :: .ref a :: S) μ Q := by
  subst hn
  refine fun D ad cI cZ A p l e' R s m args below meth c cells slots Qw H locs ls C Wd Ld K => ?_
  obtain ⟨q0, h1, h2⟩ := jm_ws_at (ad := ad) (cI := cI) (cZ := cZ) (μ := μ) hI
  rw [jm_ce_obj hs] at h2
  obtain ⟨C0, T, N, ty0, hc, hk, hin, hT, hl, hty, hnm, hfin, hpd⟩ := hf
  have hlen : kf < (jm_fl ad (μ a) 0 fl).length := by rw [jm_fl_len]; exact (List.getElem?_eq_some_iff.mp ho).1
  have e : (jm_ws I ad cI cZ μ).set q0 (ad a, .inr (ci, (jm_fl ad (μ a) 0 fl).set kf (.int x))) = jm_ws I ad cI cZ (jm_set μ a kf x) := by
    rw [← jm_ws_set Wd.2.1 h1 (μ' := jm_set μ a kf x) jm_set_ne, jm_ce_obj hs, jm_set_eq, jm_fl_set fl 0 kf ho, Nat.zero_add]
  have kk : ∀ (H1 : Heap) (locs1 : List Loc), va_P D vwCl ((jm_ws I ad cI cZ μ).set q0 (ad a, .inr (ci, (jm_fl ad (μ a) 0 fl).set kf (.int x)))) H1 → va_D A ((jm_ws I ad cI cZ μ).set q0 (ad a, .inr (ci, (jm_fl ad (μ a) 0 fl).set kf (.int x)))) → va_S A s.heap H1 locs1 → W p l e' R s m args below meth c H1 locs1 cells slots Qw (F0 m (pc + 3) ls (S.map (jm_cv ad))) := by
    intro H1 locs1 p1 p2 p3
    rw [e] at p1 p2
    exact k D ad cI cZ A p l e' R s m args below meth c cells slots Qw H1 locs1 ls C ⟨p1, p2, p3⟩ Ld K
  rcases hl with hl | ⟨host, hl⟩
  · exact va_put C.1.1 C.1.2.1 (Ts := jm_gw) C.2.1 hin ty0 hty hnm C.1.2.2.2.1 C.2.2.2.1 Wd.1 Wd.2.1 Wd.2.2 q0 h2 hc kf hk (C.2.1 _ hl) (fun x hx => by rw [hT] at hx; exact hx) hfin hpd rfl rfl hlen hd kk
  · exact va_putN C.1.1 C.1.2.1 (Ts := jm_gw) C.2.1 hin ty0 hty hnm C.1.2.2.2.1 C.2.2.2.1 Wd.1 Wd.2.1 Wd.2.2 q0 h2 hc kf hk (va_Nw.use rfl (C.2.2.1 _ hl)) (fun x hx => by rw [hT] at hx; exact hx) hfin hpd rfl rfl hlen hd kk
end JmRules

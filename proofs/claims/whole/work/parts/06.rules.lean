/-! RULES of J: plain instructions -/
section Rules
variable {ω : Wd} {l : Launch} {Y : Mt} {d pc : Nat} {lv : List (Nat × Value)} {st : List Value} {μ : Mem} {k n : Nat} {Post : Oa → Mem → Prop}

theorem J.iconst {i : Int} {v : Int32} (hd : decode Y.cc pc = .ok (.iconst i, 1)) (hv : Int32.ofInt i = v) (kk : J ω l Y d (pc + 1) lv (.int v :: st) μ k n Post) : J ω l Y d pc lv (st) μ k n Post := by
  intro p e R s m args below meth c H locs cells slots mc ms ls F hw hS hl hk hn
  exact lv_iconst F.2.2.2.1 F.2.2.2.2.1 hd hv (kk p e R s m args below meth c H locs cells slots mc ms ls F hw hS hl hk hn)
theorem J.bipush {i : Int} {v : Int32} (hd : decode Y.cc pc = .ok (.bipush i, 2)) (hv : (Int8.ofInt i).toInt32 = v) (kk : J ω l Y d (pc + 2) lv (.int v :: st) μ k n Post) : J ω l Y d pc lv (st) μ k n Post := by
  intro p e R s m args below meth c H locs cells slots mc ms ls F hw hS hl hk hn
  exact lv_bipush F.2.2.2.1 F.2.2.2.2.1 hd hv (kk p e R s m args below meth c H locs cells slots mc ms ls F hw hS hl hk hn)
theorem J.sipush {i : Int} {v : Int32} (hd : decode Y.cc pc = .ok (.sipush i, 3)) (hv : (Int16.ofInt i).toInt32 = v) (kk : J ω l Y d (pc + 3) lv (.int v :: st) μ k n Post) : J ω l Y d pc lv (st) μ k n Post := by
  intro p e R s m args below meth c H locs cells slots mc ms ls F hw hS hl hk hn
  exact lv_sipush F.2.2.2.1 F.2.2.2.2.1 hd hv (kk p e R s m args below meth c H locs cells slots mc ms ls F hw hS hl hk hn)
theorem J.lconst {i : Fin 2} {v : Int64} (hd : decode Y.cc pc = .ok (.lconst i, 1)) (hv : Int64.ofNat (i : Nat) = v) (kk : J ω l Y d (pc + 1) lv (.long v :: st) μ k n Post) : J ω l Y d pc lv (st) μ k n Post := by
  intro p e R s m args below meth c H locs cells slots mc ms ls F hw hS hl hk hn
  exact lv_lconst F.2.2.2.1 F.2.2.2.2.1 hd hv (kk p e R s m args below meth c H locs cells slots mc ms ls F hw hS hl hk hn)
theorem J.iload {i : Nat} {x : Int32} (hd : decode Y.cc pc = .ok (.iload i, 2)) (j : Nat) (hj : lv[j]? = some (i, .int x)) (kk : J ω l Y d (pc + 2) lv (.int x :: st) μ k n Post) : J ω l Y d pc lv st μ k n Post := by
  intro p e R s m args below meth c H locs cells slots mc ms ls F hw hS hl hk hn
  exact lv_iload F.2.2.2.1 F.2.2.2.2.1 hd (lv_at hl j (by rw [List.getElem?_map, hj]; rfl)) (kk p e R s m args below meth c H locs cells slots mc ms ls F hw hS hl hk hn)
theorem J.iload_n {i : Nat} {q : Fin 4} {x : Int32} (hd : decode Y.cc pc = .ok (.iload_n q, 1)) (hi : (q : Nat) = i) (j : Nat) (hj : lv[j]? = some (i, .int x)) (kk : J ω l Y d (pc + 1) lv (.int x :: st) μ k n Post) : J ω l Y d pc lv st μ k n Post := by
  intro p e R s m args below meth c H locs cells slots mc ms ls F hw hS hl hk hn
  exact lv_iload_n F.2.2.2.1 F.2.2.2.2.1 hd hi (lv_at hl j (by rw [List.getElem?_map, hj]; rfl)) (kk p e R s m args below meth c H locs cells slots mc ms ls F hw hS hl hk hn)
theorem J.lload {i : Nat} {x : Int64} (hd : decode Y.cc pc = .ok (.lload i, 2)) (j : Nat) (hj : lv[j]? = some (i, .long x)) (kk : J ω l Y d (pc + 2) lv (.long x :: st) μ k n Post) : J ω l Y d pc lv st μ k n Post := by
  intro p e R s m args below meth c H locs cells slots mc ms ls F hw hS hl hk hn
  exact lv_lload F.2.2.2.1 F.2.2.2.2.1 hd (lv_at hl j (by rw [List.getElem?_map, hj]; rfl)) (kk p e R s m args below meth c H locs cells slots mc ms ls F hw hS hl hk hn)
theorem J.lload_n {i : Nat} {q : Fin 4} {x : Int64} (hd : decode Y.cc pc = .ok (.lload_n q, 1)) (hi : (q : Nat) = i) (j : Nat) (hj : lv[j]? = some (i, .long x)) (kk : J ω l Y d (pc + 1) lv (.long x :: st) μ k n Post) : J ω l Y d pc lv st μ k n Post := by
  intro p e R s m args below meth c H locs cells slots mc ms ls F hw hS hl hk hn
  exact lv_lload_n F.2.2.2.1 F.2.2.2.2.1 hd hi (lv_at hl j (by rw [List.getElem?_map, hj]; rfl)) (kk p e R s m args below meth c H locs cells slots mc ms ls F hw hS hl hk hn)
theorem J.aload {i a : Nat} (hd : decode Y.cc pc = .ok (.aload i, 2)) (j : Nat) (hj : lv[j]? = some (i, .ref a)) (kk : J ω l Y d (pc + 2) lv (.ref a :: st) μ k n Post) : J ω l Y d pc lv st μ k n Post := by
  intro p e R s m args below meth c H locs cells slots mc ms ls F hw hS hl hk hn
  exact lv_aload F.2.2.2.1 F.2.2.2.2.1 hd (x := ad ω a) (lv_at hl j (by rw [List.getElem?_map, hj]; rfl)) (kk p e R s m args below meth c H locs cells slots mc ms ls F hw hS hl hk hn)
theorem J.aload_n {i a : Nat} {q : Fin 4} (hd : decode Y.cc pc = .ok (.aload_n q, 1)) (hi : (q : Nat) = i) (j : Nat) (hj : lv[j]? = some (i, .ref a)) (kk : J ω l Y d (pc + 1) lv (.ref a :: st) μ k n Post) : J ω l Y d pc lv st μ k n Post := by
  intro p e R s m args below meth c H locs cells slots mc ms ls F hw hS hl hk hn
  exact lv_aload_n F.2.2.2.1 F.2.2.2.2.1 hd hi (x := ad ω a) (lv_at hl j (by rw [List.getElem?_map, hj]; rfl)) (kk p e R s m args below meth c H locs cells slots mc ms ls F hw hS hl hk hn)
theorem st1_map (ω : Wd) (i : Nat) (v : Value) (lv : List (Nat × Value)) : ((i, v) :: lv.filter (fun q => !(q.1 == i) && !(q.1 + 1 == i && q.2.category == 2))).map (vmq ω) = (i, vm ω v) :: (lv.map (vmq ω)).filter (fun q => !(q.1 == i) && !(q.1 + 1 == i && q.2.category == 2)) := by
  rw [List.map_cons, List.filter_map]
  congr 2
  apply List.filter_congr
  intro q _
  simp only [Function.comp, vmq, vm_cat]
theorem st2_map (ω : Wd) (i : Nat) (v : Value) (lv : List (Nat × Value)) : ((i, v) :: lv.filter (fun q => !(q.1 == i) && (!(q.1 == i + 1) && !(q.1 + 1 == i && q.2.category == 2)))).map (vmq ω) = (i, vm ω v) :: (lv.map (vmq ω)).filter (fun q => !(q.1 == i) && (!(q.1 == i + 1) && !(q.1 + 1 == i && q.2.category == 2))) := by
  rw [List.map_cons, List.filter_map]
  congr 2
  apply List.filter_congr
  intro q _
  simp only [Function.comp, vmq, vm_cat]
theorem J.istore {i : Nat} {x : Int32} (lv' : List (Nat × Value)) (hd : decode Y.cc pc = .ok (.istore i, 2)) (hn' : i < Y.nL) (hv : (i, Value.int x) :: lv.filter (fun q => !(q.1 == i) && !(q.1 + 1 == i && q.2.category == 2)) = lv') (kk : J ω l Y d (pc + 2) lv' st μ k n Post) : J ω l Y d pc lv (.int x :: st) μ k n Post := by
  intro p e R s m args below meth c H locs cells slots mc ms ls F hw hS hl hk hn
  subst hv
  exact lv_istore (lv' := _) F.2.2.2.1 F.2.2.2.2.1 hd  hl hn' rfl (fun ls hl => kk p e R s m args below meth c H locs cells slots mc ms ls F hw hS (by rw [st1_map]; exact hl) hk hn)
theorem J.istore_n {i : Nat} {q : Fin 4} {x : Int32} (lv' : List (Nat × Value)) (hd : decode Y.cc pc = .ok (.istore_n q, 1)) (hi : (q : Nat) = i) (hn' : i < Y.nL) (hv : (i, Value.int x) :: lv.filter (fun q => !(q.1 == i) && !(q.1 + 1 == i && q.2.category == 2)) = lv') (kk : J ω l Y d (pc + 1) lv' st μ k n Post) : J ω l Y d pc lv (.int x :: st) μ k n Post := by
  intro p e R s m args below meth c H locs cells slots mc ms ls F hw hS hl hk hn
  subst hv
  exact lv_istore_n (lv' := _) F.2.2.2.1 F.2.2.2.2.1 hd hi hl hn' rfl (fun ls hl => kk p e R s m args below meth c H locs cells slots mc ms ls F hw hS (by rw [st1_map]; exact hl) hk hn)
theorem J.astore {i : Nat} {x : Nat} (lv' : List (Nat × Value)) (hd : decode Y.cc pc = .ok (.astore i, 2)) (hn' : i < Y.nL) (hv : (i, Value.ref x) :: lv.filter (fun q => !(q.1 == i) && !(q.1 + 1 == i && q.2.category == 2)) = lv') (kk : J ω l Y d (pc + 2) lv' st μ k n Post) : J ω l Y d pc lv (.ref x :: st) μ k n Post := by
  intro p e R s m args below meth c H locs cells slots mc ms ls F hw hS hl hk hn
  subst hv
  exact lv_astore (lv' := _) F.2.2.2.1 F.2.2.2.2.1 hd  hl hn' rfl (fun ls hl => kk p e R s m args below meth c H locs cells slots mc ms ls F hw hS (by rw [st1_map]; exact hl) hk hn)
theorem J.astore_n {i : Nat} {q : Fin 4} {x : Nat} (lv' : List (Nat × Value)) (hd : decode Y.cc pc = .ok (.astore_n q, 1)) (hi : (q : Nat) = i) (hn' : i < Y.nL) (hv : (i, Value.ref x) :: lv.filter (fun q => !(q.1 == i) && !(q.1 + 1 == i && q.2.category == 2)) = lv') (kk : J ω l Y d (pc + 1) lv' st μ k n Post) : J ω l Y d pc lv (.ref x :: st) μ k n Post := by
  intro p e R s m args below meth c H locs cells slots mc ms ls F hw hS hl hk hn
  subst hv
  exact lv_astore_n (lv' := _) F.2.2.2.1 F.2.2.2.2.1 hd hi hl hn' rfl (fun ls hl => kk p e R s m args below meth c H locs cells slots mc ms ls F hw hS (by rw [st1_map]; exact hl) hk hn)
theorem J.lstore {i : Nat} {x : Int64} (lv' : List (Nat × Value)) (hd : decode Y.cc pc = .ok (.lstore i, 2)) (hn' : i + 1 < Y.nL) (hv : (i, Value.long x) :: lv.filter (fun q => !(q.1 == i) && (!(q.1 == i + 1) && !(q.1 + 1 == i && q.2.category == 2))) = lv') (kk : J ω l Y d (pc + 2) lv' st μ k n Post) : J ω l Y d pc lv (.long x :: st) μ k n Post := by
  intro p e R s m args below meth c H locs cells slots mc ms ls F hw hS hl hk hn
  subst hv
  exact lv_lstore (lv' := _) F.2.2.2.1 F.2.2.2.2.1 hd  hl hn' rfl (fun ls hl => kk p e R s m args below meth c H locs cells slots mc ms ls F hw hS (by rw [st2_map]; exact hl) hk hn)
theorem J.lstore_n {i : Nat} {q : Fin 4} {x : Int64} (lv' : List (Nat × Value)) (hd : decode Y.cc pc = .ok (.lstore_n q, 1)) (hi : (q : Nat) = i) (hn' : i + 1 < Y.nL) (hv : (i, Value.long x) :: lv.filter (fun q => !(q.1 == i) && (!(q.1 == i + 1) && !(q.1 + 1 == i && q.2.category == 2))) = lv') (kk : J ω l Y d (pc + 1) lv' st μ k n Post) : J ω l Y d pc lv (.long x :: st) μ k n Post := by
  intro p e R s m args below meth c H locs cells slots mc ms ls F hw hS hl hk hn
  subst hv
  exact lv_lstore_n (lv' := _) F.2.2.2.1 F.2.2.2.2.1 hd hi hl hn' rfl (fun ls hl => kk p e R s m args below meth c H locs cells slots mc ms ls F hw hS (by rw [st2_map]; exact hl) hk hn)
theorem J.iinc {i j : Nat} {z : Int} {x v : Int32} (lv' : List (Nat × Value)) (hd : decode Y.cc pc = .ok (.iinc i z, 3)) (hj : lv[j]? = some (i, .int x)) (hv : x + Int32.ofInt z = v) (hn' : i < Y.nL) (hv' : (i, Value.int v) :: lv.filter (fun q => !(q.1 == i) && !(q.1 + 1 == i && q.2.category == 2)) = lv') (kk : J ω l Y d (pc + 3) lv' st μ k n Post) : J ω l Y d pc lv st μ k n Post := by
  intro p e R s m args below meth c H locs cells slots mc ms ls F hw hS hl hk hn
  subst hv'
  exact lv_iinc (lv' := _) F.2.2.2.1 F.2.2.2.2.1 hd hl (k := j) (x := x) (by rw [List.getElem?_map, hj]; rfl) hv hn' rfl (fun ls hl => kk p e R s m args below meth c H locs cells slots mc ms ls F hw hS (by rw [st1_map]; exact hl) hk hn)
theorem J.iadd {x y : Int32} (hd : decode Y.cc pc = .ok (.iadd, 1)) (kk : J ω l Y d (pc + 1) lv (.int (x + y) :: st) μ k n Post) : J ω l Y d pc lv (.int y :: .int x :: st) μ k n Post := by
  intro p e R s m args below meth c H locs cells slots mc ms ls F hw hS hl hk hn
  exact lv_iadd F.2.2.2.1 F.2.2.2.2.1 hd (kk p e R s m args below meth c H locs cells slots mc ms ls F hw hS hl hk hn)
theorem J.isub {x y : Int32} (hd : decode Y.cc pc = .ok (.isub, 1)) (kk : J ω l Y d (pc + 1) lv (.int (x - y) :: st) μ k n Post) : J ω l Y d pc lv (.int y :: .int x :: st) μ k n Post := by
  intro p e R s m args below meth c H locs cells slots mc ms ls F hw hS hl hk hn
  exact lv_isub F.2.2.2.1 F.2.2.2.2.1 hd (kk p e R s m args below meth c H locs cells slots mc ms ls F hw hS hl hk hn)
theorem J.imul {x y : Int32} (hd : decode Y.cc pc = .ok (.imul, 1)) (kk : J ω l Y d (pc + 1) lv (.int (x * y) :: st) μ k n Post) : J ω l Y d pc lv (.int y :: .int x :: st) μ k n Post := by
  intro p e R s m args below meth c H locs cells slots mc ms ls F hw hS hl hk hn
  exact lv_imul F.2.2.2.1 F.2.2.2.2.1 hd (kk p e R s m args below meth c H locs cells slots mc ms ls F hw hS hl hk hn)
theorem J.iand {x y : Int32} (hd : decode Y.cc pc = .ok (.iand, 1)) (kk : J ω l Y d (pc + 1) lv (.int (x &&& y) :: st) μ k n Post) : J ω l Y d pc lv (.int y :: .int x :: st) μ k n Post := by
  intro p e R s m args below meth c H locs cells slots mc ms ls F hw hS hl hk hn
  exact lv_iand F.2.2.2.1 F.2.2.2.2.1 hd (kk p e R s m args below meth c H locs cells slots mc ms ls F hw hS hl hk hn)
theorem J.ior {x y : Int32} (hd : decode Y.cc pc = .ok (.ior, 1)) (kk : J ω l Y d (pc + 1) lv (.int (x ||| y) :: st) μ k n Post) : J ω l Y d pc lv (.int y :: .int x :: st) μ k n Post := by
  intro p e R s m args below meth c H locs cells slots mc ms ls F hw hS hl hk hn
  exact lv_ior F.2.2.2.1 F.2.2.2.2.1 hd (kk p e R s m args below meth c H locs cells slots mc ms ls F hw hS hl hk hn)
theorem J.ixor {x y : Int32} (hd : decode Y.cc pc = .ok (.ixor, 1)) (kk : J ω l Y d (pc + 1) lv (.int (x ^^^ y) :: st) μ k n Post) : J ω l Y d pc lv (.int y :: .int x :: st) μ k n Post := by
  intro p e R s m args below meth c H locs cells slots mc ms ls F hw hS hl hk hn
  exact lv_ixor F.2.2.2.1 F.2.2.2.2.1 hd (kk p e R s m args below meth c H locs cells slots mc ms ls F hw hS hl hk hn)
theorem J.ishl {x y : Int32} (hd : decode Y.cc pc = .ok (.ishl, 1)) (kk : J ω l Y d (pc + 1) lv (.int (x <<< (y &&& 31)) :: st) μ k n Post) : J ω l Y d pc lv (.int y :: .int x :: st) μ k n Post := by
  intro p e R s m args below meth c H locs cells slots mc ms ls F hw hS hl hk hn
  exact lv_ishl F.2.2.2.1 F.2.2.2.2.1 hd (kk p e R s m args below meth c H locs cells slots mc ms ls F hw hS hl hk hn)
theorem J.ishr {x y : Int32} (hd : decode Y.cc pc = .ok (.ishr, 1)) (kk : J ω l Y d (pc + 1) lv (.int (x >>> (y &&& 31)) :: st) μ k n Post) : J ω l Y d pc lv (.int y :: .int x :: st) μ k n Post := by
  intro p e R s m args below meth c H locs cells slots mc ms ls F hw hS hl hk hn
  exact lv_ishr F.2.2.2.1 F.2.2.2.2.1 hd (kk p e R s m args below meth c H locs cells slots mc ms ls F hw hS hl hk hn)
theorem J.iushr {x y : Int32} (hd : decode Y.cc pc = .ok (.iushr, 1)) (kk : J ω l Y d (pc + 1) lv (.int ((x.toUInt32 >>> (y.toUInt32 &&& Int32.toUInt32 31)).toInt32) :: st) μ k n Post) : J ω l Y d pc lv (.int y :: .int x :: st) μ k n Post := by
  intro p e R s m args below meth c H locs cells slots mc ms ls F hw hS hl hk hn
  exact lv_iushr F.2.2.2.1 F.2.2.2.2.1 hd rfl (kk p e R s m args below meth c H locs cells slots mc ms ls F hw hS hl hk hn)
theorem J.ineg {x : Int32} (hd : decode Y.cc pc = .ok (.ineg, 1)) (kk : J ω l Y d (pc + 1) lv (.int (-x) :: st) μ k n Post) : J ω l Y d pc lv (.int x :: st) μ k n Post := by
  intro p e R s m args below meth c H locs cells slots mc ms ls F hw hS hl hk hn
  exact lv_ineg F.2.2.2.1 F.2.2.2.2.1 hd (kk p e R s m args below meth c H locs cells slots mc ms ls F hw hS hl hk hn)
theorem J.idiv {x y : Int32} (hd : decode Y.cc pc = .ok (.idiv, 1)) (hne : ¬ y = 0) (kk : J ω l Y d (pc + 1) lv (.int (x / y) :: st) μ k n Post) : J ω l Y d pc lv (.int y :: .int x :: st) μ k n Post := by
  intro p e R s m args below meth c H locs cells slots mc ms ls F hw hS hl hk hn
  exact lv_idiv F.2.2.2.1 F.2.2.2.2.1 hd hne (kk p e R s m args below meth c H locs cells slots mc ms ls F hw hS hl hk hn)
theorem J.irem {x y : Int32} (hd : decode Y.cc pc = .ok (.irem, 1)) (hne : ¬ y = 0) (kk : J ω l Y d (pc + 1) lv (.int (x - x / y * y) :: st) μ k n Post) : J ω l Y d pc lv (.int y :: .int x :: st) μ k n Post := by
  intro p e R s m args below meth c H locs cells slots mc ms ls F hw hS hl hk hn
  exact lv_irem F.2.2.2.1 F.2.2.2.2.1 hd hne (kk p e R s m args below meth c H locs cells slots mc ms ls F hw hS hl hk hn)
theorem J.ladd {x y : Int64} (hd : decode Y.cc pc = .ok (.ladd, 1)) (kk : J ω l Y d (pc + 1) lv (.long (x + y) :: st) μ k n Post) : J ω l Y d pc lv (.long y :: .long x :: st) μ k n Post := by
  intro p e R s m args below meth c H locs cells slots mc ms ls F hw hS hl hk hn
  exact lv_ladd F.2.2.2.1 F.2.2.2.2.1 hd (kk p e R s m args below meth c H locs cells slots mc ms ls F hw hS hl hk hn)
theorem J.lsub {x y : Int64} (hd : decode Y.cc pc = .ok (.lsub, 1)) (kk : J ω l Y d (pc + 1) lv (.long (x - y) :: st) μ k n Post) : J ω l Y d pc lv (.long y :: .long x :: st) μ k n Post := by
  intro p e R s m args below meth c H locs cells slots mc ms ls F hw hS hl hk hn
  exact lv_lsub F.2.2.2.1 F.2.2.2.2.1 hd (kk p e R s m args below meth c H locs cells slots mc ms ls F hw hS hl hk hn)
theorem J.lmul {x y : Int64} (hd : decode Y.cc pc = .ok (.lmul, 1)) (kk : J ω l Y d (pc + 1) lv (.long (x * y) :: st) μ k n Post) : J ω l Y d pc lv (.long y :: .long x :: st) μ k n Post := by
  intro p e R s m args below meth c H locs cells slots mc ms ls F hw hS hl hk hn
  exact lv_lmul F.2.2.2.1 F.2.2.2.2.1 hd (kk p e R s m args below meth c H locs cells slots mc ms ls F hw hS hl hk hn)
theorem J.land {x y : Int64} (hd : decode Y.cc pc = .ok (.land, 1)) (kk : J ω l Y d (pc + 1) lv (.long (x &&& y) :: st) μ k n Post) : J ω l Y d pc lv (.long y :: .long x :: st) μ k n Post := by
  intro p e R s m args below meth c H locs cells slots mc ms ls F hw hS hl hk hn
  exact lv_land F.2.2.2.1 F.2.2.2.2.1 hd (kk p e R s m args below meth c H locs cells slots mc ms ls F hw hS hl hk hn)
theorem J.lor {x y : Int64} (hd : decode Y.cc pc = .ok (.lor, 1)) (kk : J ω l Y d (pc + 1) lv (.long (x ||| y) :: st) μ k n Post) : J ω l Y d pc lv (.long y :: .long x :: st) μ k n Post := by
  intro p e R s m args below meth c H locs cells slots mc ms ls F hw hS hl hk hn
  exact lv_lor F.2.2.2.1 F.2.2.2.2.1 hd (kk p e R s m args below meth c H locs cells slots mc ms ls F hw hS hl hk hn)
theorem J.lxor {x y : Int64} (hd : decode Y.cc pc = .ok (.lxor, 1)) (kk : J ω l Y d (pc + 1) lv (.long (x ^^^ y) :: st) μ k n Post) : J ω l Y d pc lv (.long y :: .long x :: st) μ k n Post := by
  intro p e R s m args below meth c H locs cells slots mc ms ls F hw hS hl hk hn
  exact lv_lxor F.2.2.2.1 F.2.2.2.2.1 hd (kk p e R s m args below meth c H locs cells slots mc ms ls F hw hS hl hk hn)
theorem J.lneg {x : Int64} (hd : decode Y.cc pc = .ok (.lneg, 1)) (kk : J ω l Y d (pc + 1) lv (.long (-x) :: st) μ k n Post) : J ω l Y d pc lv (.long x :: st) μ k n Post := by
  intro p e R s m args below meth c H locs cells slots mc ms ls F hw hS hl hk hn
  exact lv_lneg F.2.2.2.1 F.2.2.2.2.1 hd (kk p e R s m args below meth c H locs cells slots mc ms ls F hw hS hl hk hn)
theorem J.lshl {x : Int64} {y : Int32} (hd : decode Y.cc pc = .ok (.lshl, 1)) (kk : J ω l Y d (pc + 1) lv (.long (x <<< (y.toInt64 &&& 63)) :: st) μ k n Post) : J ω l Y d pc lv (.int y :: .long x :: st) μ k n Post := by
  intro p e R s m args below meth c H locs cells slots mc ms ls F hw hS hl hk hn
  exact lv_lshl F.2.2.2.1 F.2.2.2.2.1 hd rfl (kk p e R s m args below meth c H locs cells slots mc ms ls F hw hS hl hk hn)
theorem J.lushr {x : Int64} {y : Int32} (hd : decode Y.cc pc = .ok (.lushr, 1)) (kk : J ω l Y d (pc + 1) lv (.long ((x.toUInt64 >>> (y.toInt64.toUInt64 &&& Int64.toUInt64 63)).toInt64) :: st) μ k n Post) : J ω l Y d pc lv (.int y :: .long x :: st) μ k n Post := by
  intro p e R s m args below meth c H locs cells slots mc ms ls F hw hS hl hk hn
  exact lv_lushr F.2.2.2.1 F.2.2.2.2.1 hd rfl (kk p e R s m args below meth c H locs cells slots mc ms ls F hw hS hl hk hn)
theorem J.lcmp {x y : Int64} (hd : decode Y.cc pc = .ok (.lcmp, 1)) (kk : J ω l Y d (pc + 1) lv (.int (lg_cmp x y) :: st) μ k n Post) : J ω l Y d pc lv (.long y :: .long x :: st) μ k n Post := by
  intro p e R s m args below meth c H locs cells slots mc ms ls F hw hS hl hk hn
  exact W.lcmp F.2.2.2.1 F.2.2.2.2.1 hd (kk p e R s m args below meth c H locs cells slots mc ms ls F hw hS hl hk hn)
theorem J.i2l {x : Int32} (hd : decode Y.cc pc = .ok (.i2l, 1)) (kk : J ω l Y d (pc + 1) lv (.long x.toInt64 :: st) μ k n Post) : J ω l Y d pc lv (.int x :: st) μ k n Post := by
  intro p e R s m args below meth c H locs cells slots mc ms ls F hw hS hl hk hn
  exact lv_i2l F.2.2.2.1 F.2.2.2.2.1 hd rfl (kk p e R s m args below meth c H locs cells slots mc ms ls F hw hS hl hk hn)
theorem J.l2i {x : Int64} (hd : decode Y.cc pc = .ok (.l2i, 1)) (kk : J ω l Y d (pc + 1) lv (.int x.toInt32 :: st) μ k n Post) : J ω l Y d pc lv (.long x :: st) μ k n Post := by
  intro p e R s m args below meth c H locs cells slots mc ms ls F hw hS hl hk hn
  exact lv_l2i F.2.2.2.1 F.2.2.2.2.1 hd rfl (kk p e R s m args below meth c H locs cells slots mc ms ls F hw hS hl hk hn)
theorem J.i2b {x : Int32} (hd : decode Y.cc pc = .ok (.i2b, 1)) (kk : J ω l Y d (pc + 1) lv (.int x.toInt8.toInt32 :: st) μ k n Post) : J ω l Y d pc lv (.int x :: st) μ k n Post := by
  intro p e R s m args below meth c H locs cells slots mc ms ls F hw hS hl hk hn
  exact lv_i2b F.2.2.2.1 F.2.2.2.2.1 hd rfl (kk p e R s m args below meth c H locs cells slots mc ms ls F hw hS hl hk hn)
theorem J.i2c {x : Int32} (hd : decode Y.cc pc = .ok (.i2c, 1)) (kk : J ω l Y d (pc + 1) lv (.int (x.toUInt32 % 65536).toInt32 :: st) μ k n Post) : J ω l Y d pc lv (.int x :: st) μ k n Post := by
  intro p e R s m args below meth c H locs cells slots mc ms ls F hw hS hl hk hn
  exact lv_i2c F.2.2.2.1 F.2.2.2.2.1 hd rfl (kk p e R s m args below meth c H locs cells slots mc ms ls F hw hS hl hk hn)
theorem J.dup {v : Value} (hd : decode Y.cc pc = .ok (.dup, 1)) (hc : v.category = 1) (kk : J ω l Y d (pc + 1) lv (v :: v :: st) μ k n Post) : J ω l Y d pc lv (v :: st) μ k n Post := by
  intro p e R s m args below meth c H locs cells slots mc ms ls F hw hS hl hk hn
  exact lv_dup F.2.2.2.1 F.2.2.2.2.1 hd (by rw [vm_cat]; exact hc) (kk p e R s m args below meth c H locs cells slots mc ms ls F hw hS hl hk hn)
theorem J.pop {v : Value} (hd : decode Y.cc pc = .ok (.pop, 1)) (hc : v.category = 1) (kk : J ω l Y d (pc + 1) lv (st) μ k n Post) : J ω l Y d pc lv (v :: st) μ k n Post := by
  intro p e R s m args below meth c H locs cells slots mc ms ls F hw hS hl hk hn
  exact lv_pop F.2.2.2.1 F.2.2.2.2.1 hd (by rw [vm_cat]; exact hc) (kk p e R s m args below meth c H locs cells slots mc ms ls F hw hS hl hk hn)
theorem J.dup2 {v u : Value} (hd : decode Y.cc pc = .ok (.dup2, 1)) (hc : v.category = 1) (hu : u.category = 1) (kk : J ω l Y d (pc + 1) lv (v :: u :: v :: u :: st) μ k n Post) : J ω l Y d pc lv (v :: u :: st) μ k n Post := by
  intro p e R s m args below meth c H locs cells slots mc ms ls F hw hS hl hk hn
  exact lv_dup2_11 F.2.2.2.1 F.2.2.2.2.1 hd (by rw [vm_cat]; exact hc) (by rw [vm_cat]; exact hu) (kk p e R s m args below meth c H locs cells slots mc ms ls F hw hS hl hk hn)
theorem J.goto {off : Int} {tgt : Nat} (hd : decode Y.cc pc = .ok (.goto off, 3)) (ht : (pc : Int) + off = (tgt : Int)) (kk : J ω l Y d tgt lv st μ k n Post) : J ω l Y d pc lv st μ k n Post := by
  intro p e R s m args below meth c H locs cells slots mc ms ls F hw hS hl hk hn
  exact lv_goto F.2.2.2.1 F.2.2.2.2.1 hd ht (kk p e R s m args below meth c H locs cells slots mc ms ls F hw hS hl hk hn)
theorem J.if_eq {x : Int32} {off : Int} {tgt : Nat} (hd : decode Y.cc pc = .ok (.ifCond .eq off, 3)) (ht : (pc : Int) + off = (tgt : Int)) (kt : x = 0 → J ω l Y d tgt lv st μ k n Post) (kf : ¬ x = 0 → J ω l Y d (pc + 3) lv st μ k n Post) : J ω l Y d pc lv (.int x :: st) μ k n Post := by
  intro p e R s m args below meth c H locs cells slots mc ms ls F hw hS hl hk hn
  exact lv_if_eq F.2.2.2.1 F.2.2.2.2.1 hd ht (fun h => kt h p e R s m args below meth c H locs cells slots mc ms ls F hw hS hl hk hn) (fun h => kf h p e R s m args below meth c H locs cells slots mc ms ls F hw hS hl hk hn)
theorem J.if_ne {x : Int32} {off : Int} {tgt : Nat} (hd : decode Y.cc pc = .ok (.ifCond .ne off, 3)) (ht : (pc : Int) + off = (tgt : Int)) (kt : ¬ x = 0 → J ω l Y d tgt lv st μ k n Post) (kf : x = 0 → J ω l Y d (pc + 3) lv st μ k n Post) : J ω l Y d pc lv (.int x :: st) μ k n Post := by
  intro p e R s m args below meth c H locs cells slots mc ms ls F hw hS hl hk hn
  exact lv_if_ne F.2.2.2.1 F.2.2.2.2.1 hd ht (fun h => kt h p e R s m args below meth c H locs cells slots mc ms ls F hw hS hl hk hn) (fun h => kf h p e R s m args below meth c H locs cells slots mc ms ls F hw hS hl hk hn)
theorem J.if_lt {x : Int32} {off : Int} {tgt : Nat} (hd : decode Y.cc pc = .ok (.ifCond .lt off, 3)) (ht : (pc : Int) + off = (tgt : Int)) (kt : x < 0 → J ω l Y d tgt lv st μ k n Post) (kf : ¬ x < 0 → J ω l Y d (pc + 3) lv st μ k n Post) : J ω l Y d pc lv (.int x :: st) μ k n Post := by
  intro p e R s m args below meth c H locs cells slots mc ms ls F hw hS hl hk hn
  exact lv_if_lt F.2.2.2.1 F.2.2.2.2.1 hd ht (fun h => kt h p e R s m args below meth c H locs cells slots mc ms ls F hw hS hl hk hn) (fun h => kf h p e R s m args below meth c H locs cells slots mc ms ls F hw hS hl hk hn)
theorem J.if_ge {x : Int32} {off : Int} {tgt : Nat} (hd : decode Y.cc pc = .ok (.ifCond .ge off, 3)) (ht : (pc : Int) + off = (tgt : Int)) (kt : 0 ≤ x → J ω l Y d tgt lv st μ k n Post) (kf : ¬ 0 ≤ x → J ω l Y d (pc + 3) lv st μ k n Post) : J ω l Y d pc lv (.int x :: st) μ k n Post := by
  intro p e R s m args below meth c H locs cells slots mc ms ls F hw hS hl hk hn
  exact lv_if_ge F.2.2.2.1 F.2.2.2.2.1 hd ht (fun h => kt h p e R s m args below meth c H locs cells slots mc ms ls F hw hS hl hk hn) (fun h => kf h p e R s m args below meth c H locs cells slots mc ms ls F hw hS hl hk hn)
theorem J.if_gt {x : Int32} {off : Int} {tgt : Nat} (hd : decode Y.cc pc = .ok (.ifCond .gt off, 3)) (ht : (pc : Int) + off = (tgt : Int)) (kt : 0 < x → J ω l Y d tgt lv st μ k n Post) (kf : ¬ 0 < x → J ω l Y d (pc + 3) lv st μ k n Post) : J ω l Y d pc lv (.int x :: st) μ k n Post := by
  intro p e R s m args below meth c H locs cells slots mc ms ls F hw hS hl hk hn
  exact lv_if_gt F.2.2.2.1 F.2.2.2.2.1 hd ht (fun h => kt h p e R s m args below meth c H locs cells slots mc ms ls F hw hS hl hk hn) (fun h => kf h p e R s m args below meth c H locs cells slots mc ms ls F hw hS hl hk hn)
theorem J.if_le {x : Int32} {off : Int} {tgt : Nat} (hd : decode Y.cc pc = .ok (.ifCond .le off, 3)) (ht : (pc : Int) + off = (tgt : Int)) (kt : x ≤ 0 → J ω l Y d tgt lv st μ k n Post) (kf : ¬ x ≤ 0 → J ω l Y d (pc + 3) lv st μ k n Post) : J ω l Y d pc lv (.int x :: st) μ k n Post := by
  intro p e R s m args below meth c H locs cells slots mc ms ls F hw hS hl hk hn
  exact lv_if_le F.2.2.2.1 F.2.2.2.2.1 hd ht (fun h => kt h p e R s m args below meth c H locs cells slots mc ms ls F hw hS hl hk hn) (fun h => kf h p e R s m args below meth c H locs cells slots mc ms ls F hw hS hl hk hn)
theorem J.icmp_eq {x y : Int32} {off : Int} {tgt : Nat} (hd : decode Y.cc pc = .ok (.if_icmp .eq off, 3)) (ht : (pc : Int) + off = (tgt : Int)) (kt : x = y → J ω l Y d tgt lv st μ k n Post) (kf : ¬ x = y → J ω l Y d (pc + 3) lv st μ k n Post) : J ω l Y d pc lv (.int y :: .int x :: st) μ k n Post := by
  intro p e R s m args below meth c H locs cells slots mc ms ls F hw hS hl hk hn
  exact lv_icmp_eq F.2.2.2.1 F.2.2.2.2.1 hd ht (fun h => kt h p e R s m args below meth c H locs cells slots mc ms ls F hw hS hl hk hn) (fun h => kf h p e R s m args below meth c H locs cells slots mc ms ls F hw hS hl hk hn)
theorem J.icmp_ne {x y : Int32} {off : Int} {tgt : Nat} (hd : decode Y.cc pc = .ok (.if_icmp .ne off, 3)) (ht : (pc : Int) + off = (tgt : Int)) (kt : ¬ x = y → J ω l Y d tgt lv st μ k n Post) (kf : x = y → J ω l Y d (pc + 3) lv st μ k n Post) : J ω l Y d pc lv (.int y :: .int x :: st) μ k n Post := by
  intro p e R s m args below meth c H locs cells slots mc ms ls F hw hS hl hk hn
  exact lv_icmp_ne F.2.2.2.1 F.2.2.2.2.1 hd ht (fun h => kt h p e R s m args below meth c H locs cells slots mc ms ls F hw hS hl hk hn) (fun h => kf h p e R s m args below meth c H locs cells slots mc ms ls F hw hS hl hk hn)
theorem J.icmp_lt {x y : Int32} {off : Int} {tgt : Nat} (hd : decode Y.cc pc = .ok (.if_icmp .lt off, 3)) (ht : (pc : Int) + off = (tgt : Int)) (kt : x < y → J ω l Y d tgt lv st μ k n Post) (kf : ¬ x < y → J ω l Y d (pc + 3) lv st μ k n Post) : J ω l Y d pc lv (.int y :: .int x :: st) μ k n Post := by
  intro p e R s m args below meth c H locs cells slots mc ms ls F hw hS hl hk hn
  exact lv_icmp_lt F.2.2.2.1 F.2.2.2.2.1 hd ht (fun h => kt h p e R s m args below meth c H locs cells slots mc ms ls F hw hS hl hk hn) (fun h => kf h p e R s m args below meth c H locs cells slots mc ms ls F hw hS hl hk hn)
theorem J.icmp_ge {x y : Int32} {off : Int} {tgt : Nat} (hd : decode Y.cc pc = .ok (.if_icmp .ge off, 3)) (ht : (pc : Int) + off = (tgt : Int)) (kt : y ≤ x → J ω l Y d tgt lv st μ k n Post) (kf : ¬ y ≤ x → J ω l Y d (pc + 3) lv st μ k n Post) : J ω l Y d pc lv (.int y :: .int x :: st) μ k n Post := by
  intro p e R s m args below meth c H locs cells slots mc ms ls F hw hS hl hk hn
  exact lv_icmp_ge F.2.2.2.1 F.2.2.2.2.1 hd ht (fun h => kt h p e R s m args below meth c H locs cells slots mc ms ls F hw hS hl hk hn) (fun h => kf h p e R s m args below meth c H locs cells slots mc ms ls F hw hS hl hk hn)
theorem J.icmp_gt {x y : Int32} {off : Int} {tgt : Nat} (hd : decode Y.cc pc = .ok (.if_icmp .gt off, 3)) (ht : (pc : Int) + off = (tgt : Int)) (kt : y < x → J ω l Y d tgt lv st μ k n Post) (kf : ¬ y < x → J ω l Y d (pc + 3) lv st μ k n Post) : J ω l Y d pc lv (.int y :: .int x :: st) μ k n Post := by
  intro p e R s m args below meth c H locs cells slots mc ms ls F hw hS hl hk hn
  exact lv_icmp_gt F.2.2.2.1 F.2.2.2.2.1 hd ht (fun h => kt h p e R s m args below meth c H locs cells slots mc ms ls F hw hS hl hk hn) (fun h => kf h p e R s m args below meth c H locs cells slots mc ms ls F hw hS hl hk hn)
theorem J.icmp_le {x y : Int32} {off : Int} {tgt : Nat} (hd : decode Y.cc pc = .ok (.if_icmp .le off, 3)) (ht : (pc : Int) + off = (tgt : Int)) (kt : x ≤ y → J ω l Y d tgt lv st μ k n Post) (kf : ¬ x ≤ y → J ω l Y d (pc + 3) lv st μ k n Post) : J ω l Y d pc lv (.int y :: .int x :: st) μ k n Post := by
  intro p e R s m args below meth c H locs cells slots mc ms ls F hw hS hl hk hn
  exact lv_icmp_le F.2.2.2.1 F.2.2.2.2.1 hd ht (fun h => kt h p e R s m args below meth c H locs cells slots mc ms ls F hw hS hl hk hn) (fun h => kf h p e R s m args below meth c H locs cells slots mc ms ls F hw hS hl hk hn)
theorem J.tableIn {dflt lo hi : Int} {offs : Array Int} {len : Nat} {x : Int32} {off : Int} {tgt : Nat} (hd : decode Y.cc pc = .ok (.tableswitch dflt lo hi offs, len)) (h1 : ¬ x.toInt < lo) (h2 : ¬ hi < x.toInt) (ho : offs[(x.toInt - lo).toNat]? = some off) (ht : (pc : Int) + off = (tgt : Int)) (kk : J ω l Y d tgt lv st μ k n Post) : J ω l Y d pc lv (.int x :: st) μ k n Post := by
  intro p e R s m args below meth c H locs cells slots mc ms ls F hw hS hl hk hn
  exact lv_tableIn F.2.2.2.1 F.2.2.2.2.1 hd h1 h2 ho ht (kk p e R s m args below meth c H locs cells slots mc ms ls F hw hS hl hk hn)
theorem J.tableOut {dflt lo hi : Int} {offs : Array Int} {len : Nat} {x : Int32} {tgt : Nat} (hd : decode Y.cc pc = .ok (.tableswitch dflt lo hi offs, len)) (h : x.toInt < lo ∨ hi < x.toInt) (ht : (pc : Int) + dflt = (tgt : Int)) (kk : J ω l Y d tgt lv st μ k n Post) : J ω l Y d pc lv (.int x :: st) μ k n Post := by
  intro p e R s m args below meth c H locs cells slots mc ms ls F hw hS hl hk hn
  exact lv_tableOut F.2.2.2.1 F.2.2.2.2.1 hd h ht (kk p e R s m args below meth c H locs cells slots mc ms ls F hw hS hl hk hn)
theorem J.lookup {dflt : Int} {ps : Array (Int × Int)} {len : Nat} {x : Int32} {off : Int} {tgt : Nat} (hd : decode Y.cc pc = .ok (.lookupswitch dflt ps, len)) (hp : (ps.toList.zip (ps.toList.drop 1)).all (fun (a, next) => a.1 < next.1) = true) (ho : Op.lookupswitch.offset ps.toList dflt x.toInt = off) (ht : (pc : Int) + off = (tgt : Int)) (kk : J ω l Y d tgt lv st μ k n Post) : J ω l Y d pc lv (.int x :: st) μ k n Post := by
  intro p e R s m args below meth c H locs cells slots mc ms ls F hw hS hl hk hn
  exact lv_lookup F.2.2.2.1 F.2.2.2.2.1 hd hp ho ht (kk p e R s m args below meth c H locs cells slots mc ms ls F hw hS hl hk hn)
/-- fewer locals -/
theorem J.sub {lv' : List (Nat × Value)} (h : ∀ q ∈ lv', q ∈ lv) (kk : J ω l Y d pc lv' st μ k n Post) : J ω l Y d pc lv st μ k n Post := by
  intro p e R s m args below meth c H locs cells slots mc ms ls F hw hS hl hk hn
  refine kk p e R s m args below meth c H locs cells slots mc ms ls F hw hS ⟨hl.1, hl.2.1, fun q hq => ?_⟩ hk hn
  obtain ⟨q', h1, rfl⟩ := List.mem_map.mp hq
  exact hl.2.2 _ (List.mem_map.mpr ⟨q', h q' h1, rfl⟩)
/-- fewer locals, by their places -/
theorem J.pick {lv' : List (Nat × Value)} (ks : List Nat) (hp : lv_pick lv ks = lv') (kk : J ω l Y d pc lv' st μ k n Post) : J ω l Y d pc lv st μ k n Post := by
  refine J.sub (fun q hq => ?_) kk
  rw [← hp] at hq
  obtain ⟨j, -, hj⟩ := List.mem_filterMap.mp hq
  exact List.mem_of_getElem? hj
/-- less room asked -/
theorem J.room {k' n' : Nat} (h1 : k' ≤ k) (h2 : n' ≤ n) (kk : J ω l Y d pc lv st μ k' n' Post) : J ω l Y d pc lv st μ k n Post := by
  intro p e R s m args below meth c H locs cells slots mc ms ls F hw hS hl hk hn
  exact kk p e R s m args below meth c H locs cells slots mc ms ls F hw hS hl (by omega) (by omega)
theorem J.post {Post' : Oa → Mem → Prop} (h : ∀ o ν, Post' o ν → Post o ν) (kk : J ω l Y d pc lv st μ k n Post') : J ω l Y d pc lv st μ k n Post := by
  intro p e R s m args below meth c H locs cells slots mc ms ls F hw hS hl hk hn T hT X
  obtain ⟨t, a1, o, b1, b2, b3⟩ := kk p e R s m args below meth c H locs cells slots mc ms ls F hw hS hl hk hn T hT X
  refine ⟨t, a1, o, b1, b2, ?_⟩
  rcases b3 with ⟨⟨⟨v, ν, q1, q2, q3⟩, q4⟩, q5⟩ | ⟨q, q0, E, ce, L, ⟨⟨i, ν, q1, q2, q3⟩, q4⟩, q5⟩
  · exact Or.inl ⟨⟨⟨v, ν, q1, h _ _ q2, q3⟩, q4⟩, q5⟩
  · exact Or.inr ⟨q, q0, E, ce, L, ⟨⟨i, ν, q1, h _ _ q2, q3⟩, q4⟩, q5⟩
end Rules

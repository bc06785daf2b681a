/-! J's branches by plain tests; small facts for the printed walks -/
section Prim2
variable {ω : Wd} {l : Launch} {Y : Mt} {d pc : Nat} {lv : List (Nat × Value)} {st : List Value} {μ : Mem} {k n : Nat} {Post : Oa → Mem → Prop} {x y : Int32} {off : Int} {tgt : Nat}
theorem J.ceq (hd : decode Y.cc pc = .ok (.if_icmp .eq off, 3)) (ht : (pc : Int) + off = (tgt : Int)) (kt : x = y → J ω l Y d tgt lv st μ k n Post) (kf : ¬ x = y → J ω l Y d (pc + 3) lv st μ k n Post) : J ω l Y d pc lv (.int y :: .int x :: st) μ k n Post := J.icmp_eq hd ht kt kf
theorem J.cne (hd : decode Y.cc pc = .ok (.if_icmp .ne off, 3)) (ht : (pc : Int) + off = (tgt : Int)) (kt : x = y → J ω l Y d (pc + 3) lv st μ k n Post) (kf : ¬ x = y → J ω l Y d tgt lv st μ k n Post) : J ω l Y d pc lv (.int y :: .int x :: st) μ k n Post := J.icmp_ne hd ht kf kt
theorem J.clt (hd : decode Y.cc pc = .ok (.if_icmp .lt off, 3)) (ht : (pc : Int) + off = (tgt : Int)) (kt : x < y → J ω l Y d tgt lv st μ k n Post) (kf : ¬ x < y → J ω l Y d (pc + 3) lv st μ k n Post) : J ω l Y d pc lv (.int y :: .int x :: st) μ k n Post := J.icmp_lt hd ht kt kf
theorem J.cge (hd : decode Y.cc pc = .ok (.if_icmp .ge off, 3)) (ht : (pc : Int) + off = (tgt : Int)) (kt : x < y → J ω l Y d (pc + 3) lv st μ k n Post) (kf : ¬ x < y → J ω l Y d tgt lv st μ k n Post) : J ω l Y d pc lv (.int y :: .int x :: st) μ k n Post := J.icmp_ge hd ht (fun h => kf (Int32.not_lt.mpr h)) (fun h => kt (Int32.not_le.mp h))
theorem J.cgt (hd : decode Y.cc pc = .ok (.if_icmp .gt off, 3)) (ht : (pc : Int) + off = (tgt : Int)) (kt : y < x → J ω l Y d tgt lv st μ k n Post) (kf : ¬ y < x → J ω l Y d (pc + 3) lv st μ k n Post) : J ω l Y d pc lv (.int y :: .int x :: st) μ k n Post := J.icmp_gt hd ht kt kf
theorem J.cle (hd : decode Y.cc pc = .ok (.if_icmp .le off, 3)) (ht : (pc : Int) + off = (tgt : Int)) (kt : y < x → J ω l Y d (pc + 3) lv st μ k n Post) (kf : ¬ y < x → J ω l Y d tgt lv st μ k n Post) : J ω l Y d pc lv (.int y :: .int x :: st) μ k n Post := J.icmp_le hd ht (fun h => kf (Int32.not_lt.mpr h)) (fun h => kt (Int32.not_le.mp h))
theorem J.zeq (hd : decode Y.cc pc = .ok (.ifCond .eq off, 3)) (ht : (pc : Int) + off = (tgt : Int)) (kt : x = 0 → J ω l Y d tgt lv st μ k n Post) (kf : ¬ x = 0 → J ω l Y d (pc + 3) lv st μ k n Post) : J ω l Y d pc lv (.int x :: st) μ k n Post := J.if_eq hd ht kt kf
theorem J.zne (hd : decode Y.cc pc = .ok (.ifCond .ne off, 3)) (ht : (pc : Int) + off = (tgt : Int)) (kt : x = 0 → J ω l Y d (pc + 3) lv st μ k n Post) (kf : ¬ x = 0 → J ω l Y d tgt lv st μ k n Post) : J ω l Y d pc lv (.int x :: st) μ k n Post := J.if_ne hd ht kf kt
theorem J.zlt (hd : decode Y.cc pc = .ok (.ifCond .lt off, 3)) (ht : (pc : Int) + off = (tgt : Int)) (kt : x < 0 → J ω l Y d tgt lv st μ k n Post) (kf : ¬ x < 0 → J ω l Y d (pc + 3) lv st μ k n Post) : J ω l Y d pc lv (.int x :: st) μ k n Post := J.if_lt hd ht kt kf
theorem J.zge (hd : decode Y.cc pc = .ok (.ifCond .ge off, 3)) (ht : (pc : Int) + off = (tgt : Int)) (kt : x < 0 → J ω l Y d (pc + 3) lv st μ k n Post) (kf : ¬ x < 0 → J ω l Y d tgt lv st μ k n Post) : J ω l Y d pc lv (.int x :: st) μ k n Post := J.if_ge hd ht (fun h => kf (Int32.not_lt.mpr h)) (fun h => kt (Int32.not_le.mp h))
theorem J.zgt (hd : decode Y.cc pc = .ok (.ifCond .gt off, 3)) (ht : (pc : Int) + off = (tgt : Int)) (kt : 0 < x → J ω l Y d tgt lv st μ k n Post) (kf : ¬ 0 < x → J ω l Y d (pc + 3) lv st μ k n Post) : J ω l Y d pc lv (.int x :: st) μ k n Post := J.if_gt hd ht kt kf
theorem J.zle (hd : decode Y.cc pc = .ok (.ifCond .le off, 3)) (ht : (pc : Int) + off = (tgt : Int)) (kt : 0 < x → J ω l Y d (pc + 3) lv st μ k n Post) (kf : ¬ 0 < x → J ω l Y d tgt lv st μ k n Post) : J ω l Y d pc lv (.int x :: st) μ k n Post := J.if_le hd ht (fun h => kf (Int32.not_lt.mpr h)) (fun h => kt (Int32.not_le.mp h))
theorem J.meq {x y : Int64} (hd : decode Y.cc pc = .ok (.lcmp, 1)) (hd2 : decode Y.cc (pc + 1) = .ok (.ifCond .eq off, 3)) (ht : ((pc + 1 : Nat) : Int) + off = (tgt : Int)) (kt : x = y → J ω l Y d tgt lv st μ k n Post) (kf : ¬ x = y → J ω l Y d (pc + 4) lv st μ k n Post) : J ω l Y d pc lv (.long y :: .long x :: st) μ k n Post := J.leq hd hd2 ht kt kf
theorem J.mne {x y : Int64} (hd : decode Y.cc pc = .ok (.lcmp, 1)) (hd2 : decode Y.cc (pc + 1) = .ok (.ifCond .ne off, 3)) (ht : ((pc + 1 : Nat) : Int) + off = (tgt : Int)) (kt : x = y → J ω l Y d (pc + 4) lv st μ k n Post) (kf : ¬ x = y → J ω l Y d tgt lv st μ k n Post) : J ω l Y d pc lv (.long y :: .long x :: st) μ k n Post := J.lne hd hd2 ht kf kt
end Prim2
theorem iincv {x v : Int32} {z : Int} (h : Int32.ofInt z = v) : x + Int32.ofInt z = x + v := by rw [h]
/-- steps that a loop of ours may take -/
def fuel : Nat := 5000
def oI : Int32 ⊕ Nat → Oa
  | .inl r => .inl (some (.int r))
  | .inr i => .inr i
def oV : Unit ⊕ Nat → Oa
  | .inl _ => .inl none
  | .inr i => .inr i
theorem nrm {α β : Type} {x : α} {i : β} {P : Prop} (h : (Sum.inr i : α ⊕ β) = Sum.inl x) : P := nomatch h
theorem nlm {α β : Type} {x : α} {i : β} {P : Prop} (h : (Sum.inl x : α ⊕ β) = Sum.inr i) : P := nomatch h
theorem J.scrLd' {ω : Wd} {l : Launch} {Y : Mt} {d pc : Nat} {lv : List (Nat × Value)} {st : List Value} {μ : Mem} {k n : Nat} {Post : Oa → Mem → Prop} {i x : Int32} (hd : decode Y.cc pc = .ok (.iaload, 1)) (h : (if inb i ω.L = true then some (ω.xs (ix i)) else none) = some x) (kk : J ω l Y d (pc + 1) lv (.int x :: st) μ k n Post) : J ω l Y d pc lv (.int i :: .ref 30000 :: st) μ k n Post := by
  split at h
  · cases h
    exact J.scrLd hd (inb_in.mp (by assumption)) kk
  · cases h
theorem lk_ne {x v : Int32} {z : Int} (h : ¬ x = v) (hz : v.toInt = z) : ¬ (z = x.toInt) := fun q => h (Int32.toInt_inj.mp (by rw [hz, q]))
/-! stores that name the memory behind them; cells that are made, with their guards -/
def ptI (μ : Mem) (a f : Nat) (x : Int32) : Option Mem := if a < μ.1 ∧ a < 10000 then some (sI μ a f x) else none
def ptL (μ : Mem) (a f : Nat) (x : Int64) : Option Mem := if a < μ.1 ∧ a < 10000 then some (sL μ a f x) else none
def ptR (μ : Mem) (a f x : Nat) : Option Mem := if a < μ.1 ∧ a < 10000 then some (sR μ a f (some x)) else none
theorem ptI_ok {μ ν : Mem} {a f : Nat} {x : Int32} (h : ptI μ a f x = some ν) : okA μ a ∧ some (sI μ a f x) = some ν := by
  unfold ptI at h
  split at h
  · exact ⟨by assumption, h⟩
  · cases h
theorem ptL_ok {μ ν : Mem} {a f : Nat} {x : Int64} (h : ptL μ a f x = some ν) : okA μ a ∧ some (sL μ a f x) = some ν := by
  unfold ptL at h
  split at h
  · exact ⟨by assumption, h⟩
  · cases h
theorem ptR_ok {μ ν : Mem} {a f x : Nat} (h : ptR μ a f x = some ν) : okA μ a ∧ some (sR μ a f (some x)) = some ν := by
  unfold ptR at h
  split at h
  · exact ⟨by assumption, h⟩
  · cases h
def mkN (μ : Mem) (q : Nat × Nat) : Option (Nat × Mem) := if kd μ.1 = q ∧ μ.1 < NN then some (μ.1, sN μ) else none
theorem mkN_ok {μ ν : Mem} {q : Nat × Nat} {a : Nat} (h : mkN μ q = some (a, ν)) : kd μ.1 = q ∧ μ.1 < NN ∧ a = μ.1 ∧ ν = sN μ := by
  unfold mkN at h
  split at h
  · rename_i hc
    cases h
    exact ⟨hc.1, hc.2, rfl, rfl⟩
  · cases h
theorem mkN_k {μ ν : Mem} {q : Nat × Nat} {a : Nat} (h : mkN μ q = some (a, ν)) : (kd a).1 = q.1 := by
  obtain ⟨h1, -, rfl, -⟩ := mkN_ok h
  rw [h1]
def mkM (μ : Mem) (N M : Nat) : Option (Nat × Mem) := if (decide (kd μ.1 = (3, N)) && (List.range N).all (fun j => decide (kd (μ.1 + 1 + j) = (0, M))) && decide (μ.1 + N < NN)) = true then some (μ.1, sM μ N) else none
theorem mkM_ok {μ ν : Mem} {N M a : Nat} (h : mkM μ N M = some (a, ν)) : kd μ.1 = (3, N) ∧ (∀ j, j < N → kd (μ.1 + 1 + j) = (0, M)) ∧ μ.1 + N < NN ∧ a = μ.1 ∧ ν = sM μ N := by
  unfold mkM at h
  split at h
  · rename_i hc
    simp only [Bool.and_eq_true, decide_eq_true_eq, List.all_eq_true, List.mem_range] at hc
    cases h
    exact ⟨hc.1.1, hc.1.2, hc.2, rfl, rfl⟩
  · cases h
theorem mkM_k {μ ν : Mem} {N M a : Nat} (h : mkM μ N M = some (a, ν)) : (kd a).1 = 3 := by
  obtain ⟨h1, -, -, rfl, -⟩ := mkM_ok h
  rw [h1]
theorem smN {μ ν : Mem} (h : some μ = some ν) (hN : μ.1 = NN) : ν.1 = NN := by cases h; exact hN
section Prim3
variable {ω : Wd} {l : Launch} {Y : Mt} {d pc : Nat} {lv : List (Nat × Value)} {st : List Value} {μ ν : Mem} {k n : Nat} {Post : Oa → Mem → Prop}
theorem J.qI {a c f idx : Nat} {x : Int32} (hd : decode Y.cc pc = .ok (.putfield idx, 3)) (hf : FLink Y.y.cls idx c f) (hk : (kd a).1 = 10 + c) (hA : okA μ a) (hp : mayPut Y c f = true) (ht : tyOf c f = .int) (e : some (sI μ a f x) = some ν) (kk : J ω l Y d (pc + 3) lv st ν k n Post) : J ω l Y d pc lv (.int x :: .ref a :: st) μ k n Post := J.putI hd hf hk hA.1 hA.2 hp ht (by rw [Option.some.inj e]; exact kk)
theorem J.qZ {a c f idx : Nat} {x : Int32} (hd : decode Y.cc pc = .ok (.putfield idx, 3)) (hf : FLink Y.y.cls idx c f) (hk : (kd a).1 = 10 + c) (hA : okA μ a) (hp : mayPut Y c f = true) (ht : tyOf c f = .boolean) (hx : isB x) (e : some (sI μ a f x) = some ν) (kk : J ω l Y d (pc + 3) lv st ν k n Post) : J ω l Y d pc lv (.int x :: .ref a :: st) μ k n Post := J.putZ hd hf hk hA.1 hA.2 hp ht hx (by rw [Option.some.inj e]; exact kk)
theorem J.qL {a c f idx : Nat} {x : Int64} (hd : decode Y.cc pc = .ok (.putfield idx, 3)) (hf : FLink Y.y.cls idx c f) (hk : (kd a).1 = 10 + c) (hA : okA μ a) (hp : mayPut Y c f = true) (ht : tyOf c f = .long) (e : some (sL μ a f x) = some ν) (kk : J ω l Y d (pc + 3) lv st ν k n Post) : J ω l Y d pc lv (.long x :: .ref a :: st) μ k n Post := J.putL hd hf hk hA.1 hA.2 hp ht (by rw [Option.some.inj e]; exact kk)
theorem J.qR {a c f idx x : Nat} (hd : decode Y.cc pc = .ok (.putfield idx, 3)) (hf : FLink Y.y.cls idx c f) (hk : (kd a).1 = 10 + c) (hA : okA μ a) (hp : mayPut Y c f = true) (ht : refTy (tyOf c f) = true) (e : some (sR μ a f (some x)) = some ν) (kk : J ω l Y d (pc + 3) lv st ν k n Post) : J ω l Y d pc lv (.ref x :: .ref a :: st) μ k n Post := J.putR hd hf hk hA.1 hA.2 hp ht (by rw [Option.some.inj e]; exact kk)
theorem J.mNew {c idx a : Nat} (hd : decode Y.cc pc = .ok (.new idx, 3)) (h : mkN μ (10 + c, 0) = some (a, ν)) (hq : ∀ q : vw_C, clss[c]? = some q → Cond.classLink Y.y.cls idx q.1 ∈ lw_tbl ∧ Cond.instantiable q.1 q.2.2 ∈ lw_tbl ∧ Cond.initialized q.1 ∈ lw_tbl) (hc2 : c < 12) (hty : ∀ j, j < nfOf c → okTy (tyOf c j) = true)
    (h1 : 1 ≤ k) (h2 : nfOf c ≤ n) (kk : J ω l Y d (pc + 3) lv (.ref a :: st) ν (k - 1) (n - nfOf c) Post) : J ω l Y d pc lv st μ k n Post := by
  obtain ⟨g1, g2, rfl, rfl⟩ := mkN_ok h
  exact J.new hd g1 g2 hq hc2 hty h1 h2 kk
theorem J.mArr {atype : ArrayType} {t a : Nat} {ty : FieldType} {x : Int32} {N : Nat} (hd : decode Y.cc pc = .ok (.newarray atype, 2)) (hty : newarray.typeOf atype = ty) (ht : (t = 0 ∧ ty = .int) ∨ (t = 1 ∧ ty = .long) ∨ (t = 2 ∧ ty = .boolean)) (h : mkN μ (t, N) = some (a, ν)) (hw0 : Cond.arrayClass ty ∈ lw_tbl) (hx : ¬ x < 0) (hx2 : x.toNatClampNeg = N) (hb : N * 8 ≤ 536870912)
    (h1 : 1 ≤ k) (h2 : N ≤ n) (kk : J ω l Y d (pc + 2) lv (.ref a :: st) ν (k - 1) (n - N) Post) : J ω l Y d pc lv (.int x :: st) μ k n Post := by
  obtain ⟨g1, g2, rfl, rfl⟩ := mkN_ok h
  exact J.newa hd hty ht g1 g2 hw0 hx hx2 hb h1 h2 kk
theorem J.mANew {idx N a : Nat} {x : Int32} (hd : decode Y.cc pc = .ok (.anewarray idx, 3)) (h : mkN μ (4, N) = some (a, ν)) (hw0 : Cond.classLink Y.y.cls idx RX9 ∈ lw_tbl) (hw2 : Cond.arrayOver (.object RX9) ∈ lw_tbl) (hx : ¬ x < 0) (hx2 : x.toNatClampNeg = N) (hb : N * 8 ≤ 536870912)
    (h1 : 1 ≤ k) (h2 : N ≤ n) (kk : J ω l Y d (pc + 3) lv (.ref a :: st) ν (k - 1) (n - N) Post) : J ω l Y d pc lv (.int x :: st) μ k n Post := by
  obtain ⟨g1, g2, rfl, rfl⟩ := mkN_ok h
  exact J.anew hd g1 g2 hw0 hw2 hx hx2 hb h1 h2 kk
theorem J.mMulti {idx N M a : Nat} {x y : Int32} (hd : decode Y.cc pc = .ok (.multianewarray idx 2, 4)) (h : mkM μ N M = some (a, ν)) (hw0 : Cond.classLink Y.y.cls idx "[[I" ∈ lw_tbl) (hw2 : Cond.arrayOver (.array .int) ∈ lw_tbl) (hw3 : Cond.arrayClass .int ∈ lw_tbl) (hx : ¬ x < 0) (hx2 : x.toNatClampNeg = N) (hy : ¬ y < 0) (hy2 : y.toNatClampNeg = M) (hb : N * 8 ≤ 536870912) (hb' : M * 8 ≤ 536870912)
    (h1 : 1 + N ≤ k) (h2 : N + N * M ≤ n) (kk : J ω l Y d (pc + 4) lv (.ref a :: st) ν (k - (1 + N)) (n - (N + N * M)) Post) : J ω l Y d pc lv (.int y :: .int x :: st) μ k n Post := by
  obtain ⟨g1, g2, g3, rfl, rfl⟩ := mkM_ok h
  exact J.multi hd g1 g2 g3 hw0 hw2 hw3 hx hx2 hy hy2 hb hb' h1 h2 kk
end Prim3
/-! Math.min, Math.max -/
def mnI (x y : Int32) : Int32 := if y < x then y else x
def mxI (x y : Int32) : Int32 := if x < y then y else x
theorem mmw : (Cond.static Lib.Math.min.name ∈ lw_tbl ∧ Cond.static Lib.Math.max.name ∈ lw_tbl) ∧ Cond.initialized "java/lang/Math" ∈ lw_tbl ∧ Cond.code Lib.Math.min.name Lib.Math.min.code 2 (some .int) ∈ lw_tbl ∧ Cond.code Lib.Math.max.name Lib.Math.max.code 2 (some .int) ∈ lw_tbl := by decide +kernel
section Mm
variable {ω : Wd} {l : Launch} {Y : Mt} {d pc : Nat} {lv : List (Nat × Value)} {st : List Value} {μ : Mem} {k n idx : Nat} {Post : Oa → Mem → Prop} {x y : Int32}
theorem J.mmin (hd : decode Y.cc pc = .ok (.invokestatic idx, 3)) (hl : Cond.methodLink Y.y.cls idx Lib.Math.min.name ∈ lw_tbl) (h8 : (st.map fun v => v.category).sum ≤ 8) (kk : J ω l Y (d + 1) (pc + 3) lv (.int (mnI x y) :: st) μ k n Post) : J ω l Y (d + 1) pc lv (.int y :: .int x :: st) μ k n Post := by
  intro p e R s m args below meth c9 H locs cells slots mc ms ls F hw hS hlv hk9 hn9
  have f1 : d + 1 ≤ R.frames := F.2.2.2.2.2.2.2.2.2.2.2.1
  have f2 : 64 * (d + 1) ≤ R.locals := F.2.2.2.2.2.2.2.2.2.2.2.2.1
  have hmc := F.2.2.2.2.2.2.2.2.2.2.2.2.2
  exact va_mmin F.2.2.2.1 F.2.2.2.2.1 (F.2.2.2.2.2.1.trans hlv.1.symm) F.2.2.2.2.2.2.2.2.1 (F.w hl rfl) (F.w mmw.1.1 rfl) (F.w mmw.2.1 rfl) (F.w mmw.2.2.1 rfl) (by omega) (by rw [vm_cats]; omega) (by omega) (by omega) hd (kk p e R s m args below meth c9 H locs cells slots mc ms ls F hw hS hlv hk9 hn9)
theorem J.mmax (hd : decode Y.cc pc = .ok (.invokestatic idx, 3)) (hl : Cond.methodLink Y.y.cls idx Lib.Math.max.name ∈ lw_tbl) (h8 : (st.map fun v => v.category).sum ≤ 8) (kk : J ω l Y (d + 1) (pc + 3) lv (.int (mxI x y) :: st) μ k n Post) : J ω l Y (d + 1) pc lv (.int y :: .int x :: st) μ k n Post := by
  intro p e R s m args below meth c9 H locs cells slots mc ms ls F hw hS hlv hk9 hn9
  have f1 : d + 1 ≤ R.frames := F.2.2.2.2.2.2.2.2.2.2.2.1
  have f2 : 64 * (d + 1) ≤ R.locals := F.2.2.2.2.2.2.2.2.2.2.2.2.1
  have hmc := F.2.2.2.2.2.2.2.2.2.2.2.2.2
  exact va_mmax F.2.2.2.1 F.2.2.2.2.1 (F.2.2.2.2.2.1.trans hlv.1.symm) F.2.2.2.2.2.2.2.2.1 (F.w hl rfl) (F.w mmw.1.2 rfl) (F.w mmw.2.1 rfl) (F.w mmw.2.2.2 rfl) (by omega) (by rw [vm_cats]; omega) (by omega) (by omega) hd (kk p e R s m args below meth c9 H locs cells slots mc ms ls F hw hS hlv hk9 hn9)
end Mm

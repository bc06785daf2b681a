/-! PRIMITIVES of the pure functions, and J's rules by them -/
/-- an index within -/
def inb (i : Int32) (n : Nat) : Bool := !(decide (i < 0) || decide (n ≤ i.toNatClampNeg))
theorem inb_in {i : Int32} {n : Nat} : inb i n = true ↔ vp_in i n := by
  unfold inb vp_in
  simp
/-- the place of an index -/
abbrev ix (i : Int32) : Nat := i.toNatClampNeg
def ldI (μ : Mem) (a : Nat) (i : Int32) : Option Int32 := if inb i (kd a).2 = true then some (μ.2.1 a (ix i)) else none
def ldL (μ : Mem) (a : Nat) (i : Int32) : Option Int64 := if inb i (kd a).2 = true then some (μ.2.2.1 a (ix i)) else none
def stI (μ : Mem) (a : Nat) (i x : Int32) : Option Mem := if inb i (kd a).2 = true then some (sI μ a (ix i) x) else none
def stL (μ : Mem) (a : Nat) (i : Int32) (x : Int64) : Option Mem := if inb i (kd a).2 = true then some (sL μ a (ix i) x) else none
/-- a reference of a kind -/
def knd (t : Nat) (x : Option Nat) : Option Nat := x.bind (fun y => if (kd y).1 = t then some y else none)
def gR (μ : Mem) (a f t : Nat) : Option Nat := knd t (μ.2.2.2 a f)
def ldR (μ : Mem) (a : Nat) (i : Int32) (t : Nat) : Option Nat := if inb i (kd a).2 = true then knd t (μ.2.2.2 a (ix i)) else none
def stR (μ : Mem) (a : Nat) (i : Int32) (x : Nat) : Option Mem := if inb i (kd a).2 = true then some (sR μ a (ix i) (some x)) else none
/-- a text in a field: its number -/
def gS (μ : Mem) (a f : Nat) : Option Nat := (μ.2.2.2 a f).bind (fun y => if 10000 ≤ y ∧ y < 10015 then some (y - 10000) else none)
def dvI (x y : Int32) : Option Int32 := if y = 0 then none else some (x / y)
def rmI (x y : Int32) : Option Int32 := if y = 0 then none else some (x - x / y * y)
def ldB (i : Nat) (x : Int32) : Option Int32 := if inb x (slen.getD i 0) = true then some ((sbyt.getD i []).getD (ix x) 0) else none
/-- a copy of a stretch of ints -/
def cpI (μ : Mem) (a0 : Nat) (sp : Int32) (a : Nat) (dp n : Int32) : Option Mem :=
  if decide (sp < 0) || decide (dp < 0) || decide (n < 0) || decide ((kd a0).2 < ix sp + ix n) || decide ((kd a).2 < ix dp + ix n) then none else some (sC μ a (va_cpy (μ.2.1 a0) (μ.2.1 a) (ix sp) (ix dp) (ix n)))
/-- a cell that is there -/
def gA (μ : Mem) (a : Nat) : Option Unit := if a < μ.1 ∧ a < 10000 then some () else none
/-- a cell can be made of this kind -/
def gN (μ : Mem) (q : Nat × Nat) : Option Unit := if kd μ.1 = q ∧ μ.1 < NN then some () else none
theorem bnd {α β : Type} {a : Option α} {f : α → Option β} {r : β} (h : a.bind f = some r) : ∃ x, a = some x ∧ f x = some r := Option.bind_eq_some_iff.mp h
theorem ifc {α : Type} {c : Prop} [Decidable c] {a b : α} {r : α} (h : (if c then a else b) = r) : (c ∧ a = r) ∨ (¬ c ∧ b = r) := by
  by_cases q : c
  · rw [if_pos q] at h; exact Or.inl ⟨q, h⟩
  · rw [if_neg q] at h; exact Or.inr ⟨q, h⟩
theorem kd_lt {a t : Nat} (h : (kd a).1 = t) (ht : t < 90) : a < 519 := by
  by_cases q : a < 519
  · exact q
  · exfalso
    have : kd a = (99, 0) := by
      have hl : kdl.length = 519 := by decide +kernel
      unfold kd
      rw [List.getD_eq_getElem?_getD, List.getElem?_eq_none (by omega)]
      rfl
    rw [this] at h
    simp at h
    omega
/-- a cell is there -/
abbrev okA (μ : Mem) (a : Nat) : Prop := a < μ.1 ∧ a < 10000
theorem okN {μ : Mem} {a t : Nat} (hN : μ.1 = NN) (h : (kd a).1 = t) (ht : t < 90) : okA μ a := by
  have := kd_lt h ht
  exact ⟨by rw [hN]; exact this, by omega⟩
theorem gA_ok {μ : Mem} {a : Nat} {u : Unit} (h : gA μ a = some u) : okA μ a := by
  unfold gA at h
  split at h
  · assumption
  · cases h
theorem gN_ok {μ : Mem} {q : Nat × Nat} {u : Unit} (h : gN μ q = some u) : kd μ.1 = q ∧ μ.1 < NN := by
  unfold gN at h
  split at h
  · assumption
  · cases h
theorem ldI_ok {μ : Mem} {a : Nat} {i x : Int32} (h : ldI μ a i = some x) : vp_in i (kd a).2 ∧ μ.2.1 a (ix i) = x := by
  unfold ldI at h
  split at h
  · exact ⟨inb_in.mp (by assumption), Option.some.inj h⟩
  · cases h
theorem ldL_ok {μ : Mem} {a : Nat} {i : Int32} {x : Int64} (h : ldL μ a i = some x) : vp_in i (kd a).2 ∧ μ.2.2.1 a (ix i) = x := by
  unfold ldL at h
  split at h
  · exact ⟨inb_in.mp (by assumption), Option.some.inj h⟩
  · cases h
theorem stI_ok {μ ν : Mem} {a : Nat} {i x : Int32} (h : stI μ a i x = some ν) : vp_in i (kd a).2 ∧ sI μ a (ix i) x = ν := by
  unfold stI at h
  split at h
  · exact ⟨inb_in.mp (by assumption), Option.some.inj h⟩
  · cases h
theorem stL_ok {μ ν : Mem} {a : Nat} {i : Int32} {x : Int64} (h : stL μ a i x = some ν) : vp_in i (kd a).2 ∧ sL μ a (ix i) x = ν := by
  unfold stL at h
  split at h
  · exact ⟨inb_in.mp (by assumption), Option.some.inj h⟩
  · cases h
theorem stR_ok {μ ν : Mem} {a x : Nat} {i : Int32} (h : stR μ a i x = some ν) : vp_in i (kd a).2 ∧ sR μ a (ix i) (some x) = ν := by
  unfold stR at h
  split at h
  · exact ⟨inb_in.mp (by assumption), Option.some.inj h⟩
  · cases h
theorem knd_ok {t y : Nat} {x : Option Nat} (h : knd t x = some y) : x = some y ∧ (kd y).1 = t := by
  obtain ⟨z, h1, h2⟩ := bnd h
  split at h2
  · cases h2
    exact ⟨h1, by assumption⟩
  · cases h2
theorem gR_k {μ : Mem} {a f t x : Nat} (h : gR μ a f t = some x) : (kd x).1 = t := (knd_ok h).2
theorem ldR_ok {μ : Mem} {a t x : Nat} {i : Int32} (h : ldR μ a i t = some x) : vp_in i (kd a).2 ∧ μ.2.2.2 a (ix i) = some x ∧ (kd x).1 = t := by
  unfold ldR at h
  split at h
  · exact ⟨inb_in.mp (by assumption), knd_ok h⟩
  · cases h
theorem ldR_k {μ : Mem} {a t x : Nat} {i : Int32} (h : ldR μ a i t = some x) : (kd x).1 = t := (ldR_ok h).2.2
theorem gS_ok {μ : Mem} {a f i : Nat} (h : gS μ a f = some i) : μ.2.2.2 a f = some (10000 + i) ∧ i < 15 := by
  obtain ⟨z, h1, h2⟩ := bnd h
  split at h2
  · have h3 := Option.some.inj h2
    exact ⟨h1.trans (congrArg some (show z = 10000 + i by omega)), by omega⟩
  · cases h2
theorem stI_N {μ ν : Mem} {a : Nat} {i x : Int32} (h : stI μ a i x = some ν) (hN : μ.1 = NN) : ν.1 = NN := by rw [← (stI_ok h).2]; exact hN
theorem stL_N {μ ν : Mem} {a : Nat} {i : Int32} {x : Int64} (h : stL μ a i x = some ν) (hN : μ.1 = NN) : ν.1 = NN := by rw [← (stL_ok h).2]; exact hN
theorem cpI_ok {μ ν : Mem} {a0 a : Nat} {sp dp n : Int32} (h : cpI μ a0 sp a dp n = some ν) : ¬ sp < 0 ∧ ¬ dp < 0 ∧ ¬ n < 0 ∧ ix sp + ix n ≤ (kd a0).2 ∧ ix dp + ix n ≤ (kd a).2 ∧ sC μ a (va_cpy (μ.2.1 a0) (μ.2.1 a) (ix sp) (ix dp) (ix n)) = ν := by
  unfold cpI at h
  split at h
  · cases h
  · rename_i hc
    simp only [Bool.or_eq_true, decide_eq_true_eq, not_or, Nat.not_lt] at hc
    exact ⟨hc.1.1.1.1, hc.1.1.1.2, hc.1.1.2, hc.1.2, hc.2, Option.some.inj h⟩
theorem cpI_N {μ ν : Mem} {a0 a : Nat} {sp dp n : Int32} (h : cpI μ a0 sp a dp n = some ν) (hN : μ.1 = NN) : ν.1 = NN := by rw [← (cpI_ok h).2.2.2.2.2]; exact hN
theorem dvI_ok {x y z : Int32} (h : dvI x y = some z) : ¬ y = 0 ∧ x / y = z := by
  unfold dvI at h
  split at h
  · cases h
  · exact ⟨by assumption, Option.some.inj h⟩
theorem rmI_ok {x y z : Int32} (h : rmI x y = some z) : ¬ y = 0 ∧ x - x / y * y = z := by
  unfold rmI at h
  split at h
  · cases h
  · exact ⟨by assumption, Option.some.inj h⟩
theorem ldB_ok {i : Nat} {x y : Int32} (h : ldB i x = some y) : vp_in x (slen.getD i 0) ∧ (sbyt.getD i []).getD (ix x) 0 = y := by
  unfold ldB at h
  split at h
  · exact ⟨inb_in.mp (by assumption), Option.some.inj h⟩
  · cases h
theorem lgc_eq {x y : Int64} : lg_cmp x y = 0 ↔ x = y := by
  unfold lg_cmp
  constructor
  · intro h
    split at h
    · cases h
    · split at h
      · assumption
      · cases h
  · rintro rfl
    have : ¬ x > x := Int64.lt_irrefl
    simp [this]
/-- the end of a method that leaves a full world -/
def PE (o0 : Oa) (ν0 : Mem) (B : Prop) : Oa → Mem → Prop := fun o ν => o = o0 ∧ ν = ν0 ∧ ν0.1 = NN ∧ B
/-- the end of a method that makes cells -/
def PA (o0 : Oa) (ν0 : Mem) : Oa → Mem → Prop := fun o ν => o = o0 ∧ ν = ν0
abbrev isB (r : Int32) : Prop := r = 0 ∨ r = 1
theorem narB {r : Int32} (h : isB r) : narrow .boolean (.int r) = .int r := by rcases h with rfl | rfl <;> decide +kernel
section Prim
variable {ω : Wd} {l : Launch} {Y : Mt} {d pc : Nat} {lv : List (Nat × Value)} {st : List Value} {μ : Mem} {k n : Nat} {Post : Oa → Mem → Prop}
theorem J.fI {a c f idx : Nat} (hd : decode Y.cc pc = .ok (.getfield idx, 3)) (hf : FLink Y.y.cls idx c f) (hk : (kd a).1 = 10 + c) (hA : okA μ a) (ht : fkOf (tyOf c f) = 0 ∨ fkOf (tyOf c f) = 3) (kk : J ω l Y d (pc + 3) lv (.int (μ.2.1 a f) :: st) μ k n Post) : J ω l Y d pc lv (.ref a :: st) μ k n Post := J.getI hd hf hk hA.1 hA.2 ht kk
theorem J.fL {a c f idx : Nat} (hd : decode Y.cc pc = .ok (.getfield idx, 3)) (hf : FLink Y.y.cls idx c f) (hk : (kd a).1 = 10 + c) (hA : okA μ a) (ht : fkOf (tyOf c f) = 1) (kk : J ω l Y d (pc + 3) lv (.long (μ.2.2.1 a f) :: st) μ k n Post) : J ω l Y d pc lv (.ref a :: st) μ k n Post := J.getL hd hf hk hA.1 hA.2 ht kk
theorem J.fR {a c f idx x t : Nat} (hd : decode Y.cc pc = .ok (.getfield idx, 3)) (hf : FLink Y.y.cls idx c f) (hk : (kd a).1 = 10 + c) (hA : okA μ a) (ht : fkOf (tyOf c f) = 2) (hx : gR μ a f t = some x) (kk : J ω l Y d (pc + 3) lv (.ref x :: st) μ k n Post) : J ω l Y d pc lv (.ref a :: st) μ k n Post := J.getR hd hf hk hA.1 hA.2 ht (knd_ok hx).1 kk
theorem J.fS {a c f idx i : Nat} (hd : decode Y.cc pc = .ok (.getfield idx, 3)) (hf : FLink Y.y.cls idx c f) (hk : (kd a).1 = 10 + c) (hA : okA μ a) (ht : fkOf (tyOf c f) = 2) (hx : gS μ a f = some i) (kk : J ω l Y d (pc + 3) lv (.ref (10000 + i) :: st) μ k n Post) : J ω l Y d pc lv (.ref a :: st) μ k n Post := J.getR hd hf hk hA.1 hA.2 ht (gS_ok hx).1 kk
theorem J.pI {a c f idx : Nat} {x : Int32} (hd : decode Y.cc pc = .ok (.putfield idx, 3)) (hf : FLink Y.y.cls idx c f) (hk : (kd a).1 = 10 + c) (hA : okA μ a) (hp : mayPut Y c f = true) (ht : tyOf c f = .int) (kk : J ω l Y d (pc + 3) lv st (sI μ a f x) k n Post) : J ω l Y d pc lv (.int x :: .ref a :: st) μ k n Post := J.putI hd hf hk hA.1 hA.2 hp ht kk
theorem J.pZ {a c f idx : Nat} {x : Int32} (hd : decode Y.cc pc = .ok (.putfield idx, 3)) (hf : FLink Y.y.cls idx c f) (hk : (kd a).1 = 10 + c) (hA : okA μ a) (hp : mayPut Y c f = true) (ht : tyOf c f = .boolean) (hx : isB x) (kk : J ω l Y d (pc + 3) lv st (sI μ a f x) k n Post) : J ω l Y d pc lv (.int x :: .ref a :: st) μ k n Post := J.putZ hd hf hk hA.1 hA.2 hp ht hx kk
theorem J.pL {a c f idx : Nat} {x : Int64} (hd : decode Y.cc pc = .ok (.putfield idx, 3)) (hf : FLink Y.y.cls idx c f) (hk : (kd a).1 = 10 + c) (hA : okA μ a) (hp : mayPut Y c f = true) (ht : tyOf c f = .long) (kk : J ω l Y d (pc + 3) lv st (sL μ a f x) k n Post) : J ω l Y d pc lv (.long x :: .ref a :: st) μ k n Post := J.putL hd hf hk hA.1 hA.2 hp ht kk
theorem J.pR {a c f idx x : Nat} (hd : decode Y.cc pc = .ok (.putfield idx, 3)) (hf : FLink Y.y.cls idx c f) (hk : (kd a).1 = 10 + c) (hA : okA μ a) (hp : mayPut Y c f = true) (ht : refTy (tyOf c f) = true) (kk : J ω l Y d (pc + 3) lv st (sR μ a f (some x)) k n Post) : J ω l Y d pc lv (.ref x :: .ref a :: st) μ k n Post := J.putR hd hf hk hA.1 hA.2 hp ht kk
theorem J.aI {a : Nat} {i x : Int32} (hd : decode Y.cc pc = .ok (.iaload, 1)) (hk : (kd a).1 = 0) (hA : okA μ a) (h : ldI μ a i = some x) (kk : J ω l Y d (pc + 1) lv (.int x :: st) μ k n Post) : J ω l Y d pc lv (.int i :: .ref a :: st) μ k n Post := J.iald hd hk hA.1 hA.2 (ldI_ok h).1 (by rw [(ldI_ok h).2]; exact kk)
theorem J.aL {a : Nat} {i : Int32} {x : Int64} (hd : decode Y.cc pc = .ok (.laload, 1)) (hk : (kd a).1 = 1) (hA : okA μ a) (h : ldL μ a i = some x) (kk : J ω l Y d (pc + 1) lv (.long x :: st) μ k n Post) : J ω l Y d pc lv (.int i :: .ref a :: st) μ k n Post := J.lald hd hk hA.1 hA.2 (ldL_ok h).1 (by rw [(ldL_ok h).2]; exact kk)
theorem J.aZ {a : Nat} {i x : Int32} (hd : decode Y.cc pc = .ok (.baload, 1)) (hk : (kd a).1 = 2) (hA : okA μ a) (h : ldI μ a i = some x) (kk : J ω l Y d (pc + 1) lv (.int x :: st) μ k n Post) : J ω l Y d pc lv (.int i :: .ref a :: st) μ k n Post := J.zald hd hk hA.1 hA.2 (ldI_ok h).1 (by rw [(ldI_ok h).2]; exact kk)
theorem J.aR {a t x : Nat} {i : Int32} (hd : decode Y.cc pc = .ok (.aaload, 1)) (hk : (kd a).1 = 3 ∨ (kd a).1 = 4) (hA : okA μ a) (h : ldR μ a i t = some x) (kk : J ω l Y d (pc + 1) lv (.ref x :: st) μ k n Post) : J ω l Y d pc lv (.int i :: .ref a :: st) μ k n Post := J.aald hd hk hA.1 hA.2 (ldR_ok h).1 (ldR_ok h).2.1 kk
theorem J.wI {a : Nat} {i x : Int32} {ν : Mem} (hd : decode Y.cc pc = .ok (.iastore, 1)) (hk : (kd a).1 = 0) (hA : okA μ a) (h : stI μ a i x = some ν) (kk : J ω l Y d (pc + 1) lv st ν k n Post) : J ω l Y d pc lv (.int x :: .int i :: .ref a :: st) μ k n Post := J.iast hd hk hA.1 hA.2 (stI_ok h).1 (by rw [(stI_ok h).2]; exact kk)
theorem J.wL {a : Nat} {i : Int32} {x : Int64} {ν : Mem} (hd : decode Y.cc pc = .ok (.lastore, 1)) (hk : (kd a).1 = 1) (hA : okA μ a) (h : stL μ a i x = some ν) (kk : J ω l Y d (pc + 1) lv st ν k n Post) : J ω l Y d pc lv (.long x :: .int i :: .ref a :: st) μ k n Post := J.last hd hk hA.1 hA.2 (stL_ok h).1 (by rw [(stL_ok h).2]; exact kk)
theorem J.wZ {a : Nat} {i x : Int32} {ν : Mem} (hd : decode Y.cc pc = .ok (.bastore, 1)) (hk : (kd a).1 = 2) (hA : okA μ a) (hx : isB x) (h : stI μ a i x = some ν) (kk : J ω l Y d (pc + 1) lv st ν k n Post) : J ω l Y d pc lv (.int x :: .int i :: .ref a :: st) μ k n Post := J.zast hd hk hA.1 hA.2 (stI_ok h).1 hx (by rw [(stI_ok h).2]; exact kk)
theorem J.wR {a x : Nat} {i : Int32} {ν : Mem} (hd : decode Y.cc pc = .ok (.aastore, 1)) (hk : (kd a).1 = 4) (hA : okA μ a) (hx : (kd x).1 = 10 + 9) (hX : okA μ x) (h : stR μ a i x = some ν) (kk : J ω l Y d (pc + 1) lv st ν k n Post) : J ω l Y d pc lv (.ref x :: .int i :: .ref a :: st) μ k n Post := J.aast hd hk hA.1 hA.2 (stR_ok h).1 hx hX.1 hX.2 (by rw [(stR_ok h).2]; exact kk)
theorem J.len {a : Nat} (hd : decode Y.cc pc = .ok (.arraylength, 1)) (hk : (kd a).1 = 0) (hA : okA μ a) (kk : J ω l Y d (pc + 1) lv (.int (Int32.ofNat (kd a).2) :: st) μ k n Post) : J ω l Y d pc lv (.ref a :: st) μ k n Post := J.alen hd hk hA.1 hA.2 rfl kk
theorem J.lenB {i : Nat} (hd : decode Y.cc pc = .ok (.arraylength, 1)) (hi : i < 15) (kk : J ω l Y d (pc + 1) lv (.int (Int32.ofNat (slen.getD i 0)) :: st) μ k n Post) : J ω l Y d pc lv (.ref (20000 + i) :: st) μ k n Post := J.blen hd hi rfl kk
theorem J.aB {i : Nat} {x y : Int32} (hd : decode Y.cc pc = .ok (.baload, 1)) (hi : i < 15) (h : ldB i x = some y) (kk : J ω l Y d (pc + 1) lv (.int y :: st) μ k n Post) : J ω l Y d pc lv (.int x :: .ref (20000 + i) :: st) μ k n Post := J.bald hd hi (ldB_ok h).1 (by rw [(ldB_ok h).2]; exact kk)
theorem J.dv {x y z : Int32} (hd : decode Y.cc pc = .ok (.idiv, 1)) (h : dvI x y = some z) (kk : J ω l Y d (pc + 1) lv (.int z :: st) μ k n Post) : J ω l Y d pc lv (.int y :: .int x :: st) μ k n Post := J.idiv hd (dvI_ok h).1 (by rw [(dvI_ok h).2]; exact kk)
theorem J.rm {x y z : Int32} (hd : decode Y.cc pc = .ok (.irem, 1)) (h : rmI x y = some z) (kk : J ω l Y d (pc + 1) lv (.int z :: st) μ k n Post) : J ω l Y d pc lv (.int y :: .int x :: st) μ k n Post := J.irem hd (rmI_ok h).1 (by rw [(rmI_ok h).2]; exact kk)
theorem J.leq {x y : Int64} {off : Int} {tgt : Nat} (hd : decode Y.cc pc = .ok (.lcmp, 1)) (hd2 : decode Y.cc (pc + 1) = .ok (.ifCond .eq off, 3)) (ht : ((pc + 1 : Nat) : Int) + off = (tgt : Int)) (kt : x = y → J ω l Y d tgt lv st μ k n Post) (kf : ¬ x = y → J ω l Y d (pc + 4) lv st μ k n Post) : J ω l Y d pc lv (.long y :: .long x :: st) μ k n Post :=
  J.lcmp hd (J.if_eq hd2 ht (fun h => kt (lgc_eq.mp h)) (fun h => kf (fun q => h (lgc_eq.mpr q))))
theorem J.lne {x y : Int64} {off : Int} {tgt : Nat} (hd : decode Y.cc pc = .ok (.lcmp, 1)) (hd2 : decode Y.cc (pc + 1) = .ok (.ifCond .ne off, 3)) (ht : ((pc + 1 : Nat) : Int) + off = (tgt : Int)) (kt : ¬ x = y → J ω l Y d tgt lv st μ k n Post) (kf : x = y → J ω l Y d (pc + 4) lv st μ k n Post) : J ω l Y d pc lv (.long y :: .long x :: st) μ k n Post :=
  J.lcmp hd (J.if_ne hd2 ht (fun h => kt (fun q => h (lgc_eq.mpr q))) (fun h => kf (lgc_eq.mp h)))
theorem sw_out {x : Int32} {lo : Int} {vs : List Int32} (h : ∀ v ∈ vs, ¬ x = v) {hi : Int} (hv : ∀ j : Nat, (j : Int) ≤ hi - lo → ∃ v ∈ vs, v.toInt = lo + j) : x.toInt < lo ∨ hi < x.toInt := by
  by_cases h1 : x.toInt < lo
  · exact Or.inl h1
  · by_cases h2 : hi < x.toInt
    · exact Or.inr h2
    · exfalso
      obtain ⟨v, hm, he⟩ := hv (x.toInt - lo).toNat (by omega)
      exact h v hm (Int32.toInt_inj.mp (by omega))
theorem sw_hv {lo hi : Int} {vs : List Int32} (h : (List.range (hi - lo + 1).toNat).all (fun j => vs.any (fun v => decide (v.toInt = lo + j))) = true) (j : Nat) (hj : (j : Int) ≤ hi - lo) : ∃ v ∈ vs, v.toInt = lo + j := by
  have h1 := List.all_eq_true.mp h j (List.mem_range.mpr (by omega))
  obtain ⟨v, hm, hd⟩ := List.any_eq_true.mp h1
  exact ⟨v, hm, of_decide_eq_true hd⟩
end Prim

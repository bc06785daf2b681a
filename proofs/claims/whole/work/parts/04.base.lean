/-! THE WORLD: the cells that the law makes, by numbers 0, 1 .. in the order in which they are made. A memory: how many there are; ints, longs, references by cell and place. -/
abbrev Mem : Type := Nat × (Nat → Nat → Int32) × (Nat → Nat → Int64) × (Nat → Nat → Option Nat)
/-- the start state of the law; class numbers and slots; classes of arrays (0 int, 1 long, 2 boolean, 3 int[], 4 State); addresses of the texts and of their bytes; the script's address, length, ints -/
abbrev Wd : Type := State × va_G × (Nat → ClassId) × (Nat → Nat) × (Nat → Nat) × Nat × Nat × (Nat → Int32)
abbrev Wd.s0 (ω : Wd) : State := ω.1
abbrev Wd.D (ω : Wd) : va_G := ω.2.1
abbrev Wd.arr (ω : Wd) : Nat → ClassId := ω.2.2.1
abbrev Wd.sA (ω : Wd) : Nat → Nat := ω.2.2.2.1
abbrev Wd.vA (ω : Wd) : Nat → Nat := ω.2.2.2.2.1
abbrev Wd.b (ω : Wd) : Nat := ω.2.2.2.2.2.1
abbrev Wd.L (ω : Wd) : Nat := ω.2.2.2.2.2.2.1
abbrev Wd.xs (ω : Wd) : Nat → Int32 := ω.2.2.2.2.2.2.2
def aA (ω : Wd) : Nat → Prop := fun q => ω.s0.heap.size ≤ q
/-- addresses: below 10000 a cell that the law has made; 10000 + i the text i, 20000 + i its bytes; 30000 the script; 50000 + t any other address t -/
def ad (ω : Wd) (a : Nat) : Nat := if a < 10000 then ω.s0.heap.size + a else if a < 20000 then ω.sA (a - 10000) else if a < 30000 then ω.vA (a - 20000) else if a < 40000 then ω.b else a - 50000
def vm (ω : Wd) : Value → Value
  | .ref a => .ref (ad ω a)
  | v => v
def vmq (ω : Wd) (q : Nat × Value) : Nat × Value := (q.1, vm ω q.2)
theorem ad_new (ω : Wd) {a : Nat} (h : a < 10000) : ad ω a = ω.s0.heap.size + a := if_pos h
theorem vm_cat (ω : Wd) (v : Value) : (vm ω v).category = v.category := by cases v <;> rfl
theorem vm_cats (ω : Wd) (st : List Value) : ((st.map (vm ω)).map fun v => v.category).sum = (st.map fun v => v.category).sum := by
  rw [List.map_map]
  congr 1
  exact List.map_congr_left (fun v _ => vm_cat ω v)
theorem vm_rf (ω : Wd) (r : Option Nat) : vm ω (va_rf r) = va_rf (r.map (ad ω)) := by cases r <;> rfl
/-- the classes whose objects are made -/
abbrev clss : List vw_C := [(RX0, TX0, 3), (RX1, TX1, 8), (RX2, TX2, 8), (RX3, TX3, 1), (RX4, TX4, 3), (RX5, TX5, 5), (RX6, TX6, 11), (RX7, TX7, 3), (RX8, TX8, 4), (RX9, TX9, 7), (RX10, TX10, 20), (RX11, TX11, 60)]
/-- by class: of what kind each field is: 0 an int, 1 a long, 2 a reference, 3 a boolean -/
def fkOf : FieldType → Nat
  | .int => 0
  | .long => 1
  | .boolean => 3
  | _ => 2
def tyOf (c : Nat) : Nat → FieldType := match c with
  | 0 => tyX0 | 1 => tyX1 | 2 => tyX2 | 3 => tyX3 | 4 => tyX4 | 5 => tyX5 | 6 => tyX6 | 7 => tyX7 | 8 => tyX8 | 9 => tyX9 | 10 => tyX10 | _ => tyX11
def nfOf (c : Nat) : Nat := match c with
  | 0 => 3 | 1 => 8 | 2 => 8 | 3 => 1 | 4 => 3 | 5 => 5 | 6 => 11 | 7 => 3 | 8 => 4 | 9 => 7 | 10 => 20 | 11 => 60 | _ => 0
def tysOf (ω : Wd) : List (ClassId × FieldType) := [(ω.arr 0, .int), (ω.arr 1, .long), (ω.arr 2, .boolean), (ω.arr 3, .array .int), (ω.arr 4, .object RX9)]
def fval (ω : Wd) (μ : Mem) (a c k : Nat) : Value := match fkOf (tyOf c k) with
  | 0 => .int (μ.2.1 a k)
  | 1 => .long (μ.2.2.1 a k)
  | 3 => .int (μ.2.1 a k)
  | _ => va_rf ((μ.2.2.2 a k).map (ad ω))
def fvs (ω : Wd) (μ : Mem) (a c : Nat) : List Value := (List.range (nfOf c)).map (fval ω μ a c)
theorem fvs_get (ω : Wd) (μ : Mem) (a c : Nat) {k : Nat} (h : k < nfOf c) : (fvs ω μ a c)[k]? = some (fval ω μ a c k) := by
  simp [fvs, h]
theorem fvs_len (ω : Wd) (μ : Mem) (a c : Nat) : (fvs ω μ a c).length = nfOf c := by simp [fvs]
/-- the cells by their numbers: kind (0 int[], 1 long[], 2 boolean[], 3 int[][], 4 State[], 10 + c an object of the class c) and length -/
def kdl : List (Nat × Nat) := [
  (20, 0), (0, 700), (0, 3), (11, 0), (0, 6), (0, 6), (17, 0), (0, 700), (0, 64), (17, 0), (0, 700), (0, 64), (19, 0), (0, 48), (0, 6), (0, 6), (0, 6), (11, 0), (0, 6), (0, 6), (17, 0), (0, 700), (0, 64), (17, 0), (0, 700), (0, 64), (19, 0), (0, 48), (0, 6), (0, 6), (0, 6), (16, 0), (0, 0), (19, 0), (0, 48), (0, 6), (0, 6), (0, 6), (10, 0), (4, 40),
  (19, 0), (0, 48), (0, 6), (0, 6), (0, 6), (19, 0), (0, 48), (0, 6), (0, 6), (0, 6), (19, 0), (0, 48), (0, 6), (0, 6), (0, 6), (19, 0), (0, 48), (0, 6), (0, 6), (0, 6), (19, 0), (0, 48), (0, 6), (0, 6), (0, 6), (19, 0), (0, 48), (0, 6), (0, 6), (0, 6), (19, 0), (0, 48), (0, 6), (0, 6), (0, 6), (19, 0), (0, 48), (0, 6), (0, 6), (0, 6),
  (19, 0), (0, 48), (0, 6), (0, 6), (0, 6), (19, 0), (0, 48), (0, 6), (0, 6), (0, 6), (19, 0), (0, 48), (0, 6), (0, 6), (0, 6), (19, 0), (0, 48), (0, 6), (0, 6), (0, 6), (19, 0), (0, 48), (0, 6), (0, 6), (0, 6), (19, 0), (0, 48), (0, 6), (0, 6), (0, 6), (19, 0), (0, 48), (0, 6), (0, 6), (0, 6), (19, 0), (0, 48), (0, 6), (0, 6), (0, 6),
  (19, 0), (0, 48), (0, 6), (0, 6), (0, 6), (19, 0), (0, 48), (0, 6), (0, 6), (0, 6), (19, 0), (0, 48), (0, 6), (0, 6), (0, 6), (19, 0), (0, 48), (0, 6), (0, 6), (0, 6), (19, 0), (0, 48), (0, 6), (0, 6), (0, 6), (19, 0), (0, 48), (0, 6), (0, 6), (0, 6), (19, 0), (0, 48), (0, 6), (0, 6), (0, 6), (19, 0), (0, 48), (0, 6), (0, 6), (0, 6),
  (19, 0), (0, 48), (0, 6), (0, 6), (0, 6), (19, 0), (0, 48), (0, 6), (0, 6), (0, 6), (19, 0), (0, 48), (0, 6), (0, 6), (0, 6), (19, 0), (0, 48), (0, 6), (0, 6), (0, 6), (19, 0), (0, 48), (0, 6), (0, 6), (0, 6), (19, 0), (0, 48), (0, 6), (0, 6), (0, 6), (19, 0), (0, 48), (0, 6), (0, 6), (0, 6), (19, 0), (0, 48), (0, 6), (0, 6), (0, 6),
  (19, 0), (0, 48), (0, 6), (0, 6), (0, 6), (19, 0), (0, 48), (0, 6), (0, 6), (0, 6), (19, 0), (0, 48), (0, 6), (0, 6), (0, 6), (19, 0), (0, 48), (0, 6), (0, 6), (0, 6), (19, 0), (0, 48), (0, 6), (0, 6), (0, 6), (19, 0), (0, 48), (0, 6), (0, 6), (0, 6), (19, 0), (0, 48), (0, 6), (0, 6), (0, 6), (19, 0), (0, 48), (0, 6), (0, 6), (0, 6),
  (18, 0), (0, 8), (0, 8), (0, 8), (19, 0), (0, 48), (0, 6), (0, 6), (0, 6), (10, 0), (4, 40), (19, 0), (0, 48), (0, 6), (0, 6), (0, 6), (19, 0), (0, 48), (0, 6), (0, 6), (0, 6), (19, 0), (0, 48), (0, 6), (0, 6), (0, 6), (19, 0), (0, 48), (0, 6), (0, 6), (0, 6), (19, 0), (0, 48), (0, 6), (0, 6), (0, 6), (19, 0), (0, 48), (0, 6), (0, 6),
  (0, 6), (19, 0), (0, 48), (0, 6), (0, 6), (0, 6), (19, 0), (0, 48), (0, 6), (0, 6), (0, 6), (19, 0), (0, 48), (0, 6), (0, 6), (0, 6), (19, 0), (0, 48), (0, 6), (0, 6), (0, 6), (19, 0), (0, 48), (0, 6), (0, 6), (0, 6), (19, 0), (0, 48), (0, 6), (0, 6), (0, 6), (19, 0), (0, 48), (0, 6), (0, 6), (0, 6), (19, 0), (0, 48), (0, 6), (0, 6),
  (0, 6), (19, 0), (0, 48), (0, 6), (0, 6), (0, 6), (19, 0), (0, 48), (0, 6), (0, 6), (0, 6), (19, 0), (0, 48), (0, 6), (0, 6), (0, 6), (19, 0), (0, 48), (0, 6), (0, 6), (0, 6), (19, 0), (0, 48), (0, 6), (0, 6), (0, 6), (19, 0), (0, 48), (0, 6), (0, 6), (0, 6), (19, 0), (0, 48), (0, 6), (0, 6), (0, 6), (19, 0), (0, 48), (0, 6), (0, 6),
  (0, 6), (19, 0), (0, 48), (0, 6), (0, 6), (0, 6), (19, 0), (0, 48), (0, 6), (0, 6), (0, 6), (19, 0), (0, 48), (0, 6), (0, 6), (0, 6), (19, 0), (0, 48), (0, 6), (0, 6), (0, 6), (19, 0), (0, 48), (0, 6), (0, 6), (0, 6), (19, 0), (0, 48), (0, 6), (0, 6), (0, 6), (19, 0), (0, 48), (0, 6), (0, 6), (0, 6), (19, 0), (0, 48), (0, 6), (0, 6),
  (0, 6), (19, 0), (0, 48), (0, 6), (0, 6), (0, 6), (19, 0), (0, 48), (0, 6), (0, 6), (0, 6), (19, 0), (0, 48), (0, 6), (0, 6), (0, 6), (19, 0), (0, 48), (0, 6), (0, 6), (0, 6), (19, 0), (0, 48), (0, 6), (0, 6), (0, 6), (19, 0), (0, 48), (0, 6), (0, 6), (0, 6), (19, 0), (0, 48), (0, 6), (0, 6), (0, 6), (19, 0), (0, 48), (0, 6), (0, 6),
  (0, 6), (19, 0), (0, 48), (0, 6), (0, 6), (0, 6), (19, 0), (0, 48), (0, 6), (0, 6), (0, 6), (18, 0), (0, 8), (0, 8), (0, 8), (12, 0), (19, 0), (0, 48), (0, 6), (0, 6), (0, 6), (15, 0), (1, 49), (0, 48), (0, 6), (0, 6), (0, 6), (0, 6), (15, 0), (1, 49), (0, 48), (14, 0), (3, 6), (0, 6), (0, 6), (0, 6), (0, 6), (0, 6), (0, 6), (3, 7),
  (0, 64), (0, 64), (0, 64), (0, 64), (0, 64), (0, 64), (0, 64), (13, 0), (1, 6), (3, 2), (0, 4), (0, 4), (21, 0), (0, 6), (0, 1400), (0, 700), (0, 3), (0, 6), (0, 79), (0, 1400), (0, 950), (2, 9), (0, 158), (0, 3160), (0, 9), (0, 950), (0, 48), (0, 48), (0, 6), (0, 48), (0, 36), (0, 448), (0, 24), (0, 6), (0, 360), (0, 79), (0, 3160), (0, 24), (1, 1)]
def kd (a : Nat) : Nat × Nat := kdl.getD a (99, 0)
/-- so many are made in all (519) -/
def NN : Nat := 519
def cellE (ω : Wd) (μ : Mem) (a : Nat) : va_E := match kd a with
  | (0, n) => .inl (ω.arr 0, n, .inl (μ.2.1 a))
  | (1, n) => .inl (ω.arr 1, n, .inr (.inl (μ.2.2.1 a)))
  | (2, n) => .inl (ω.arr 2, n, .inl (μ.2.1 a))
  | (3, n) => .inl (ω.arr 3, n, .inr (.inr (.inr (.inr (fun j => (μ.2.2.2 a j).map (ad ω))))))
  | (4, n) => .inl (ω.arr 4, n, .inr (.inr (.inr (.inr (fun j => (μ.2.2.2 a j).map (ad ω))))))
  | (c, _) => .inr (c - 10, fvs ω μ a (c - 10))
def wcs (ω : Wd) (μ : Mem) : va_W := (List.range μ.1).map (fun a => (ω.s0.heap.size + a, cellE ω μ a))
theorem wcs_get (ω : Wd) (μ : Mem) {a : Nat} (h : a < μ.1) : (wcs ω μ)[a]? = some (ω.s0.heap.size + a, cellE ω μ a) := by simp [wcs, h]
theorem wcs_D (ω : Wd) (μ : Mem) : va_D (aA ω) (wcs ω μ) := by
  refine ⟨fun i j p q hp hq h => ?_, fun k q hq => ?_⟩
  · simp only [wcs, List.getElem?_map, List.getElem?_range] at hp hq
    by_cases hi : i < μ.1
    · by_cases hj : j < μ.1
      · simp [hi] at hp
        simp [hj] at hq
        subst hp; subst hq
        simp at h
        exact h
      · simp [hj] at hq
    · simp [hi] at hp
  · simp only [wcs, List.getElem?_map] at hq
    by_cases hk : k < μ.1
    · simp [hk] at hq
      subst hq
      exact Nat.le_add_right _ _
    · simp [hk] at hq
def upd2 {α : Type} (f : Nat → Nat → α) (a k : Nat) (x : α) : Nat → Nat → α := fun b j => if b = a then (if j = k then x else f b j) else f b j
theorem upd2_s {α : Type} (f : Nat → Nat → α) (a k : Nat) (x : α) : upd2 f a k x a k = x := by simp [upd2]
theorem upd2_a {α : Type} (f : Nat → Nat → α) {a b : Nat} (k : Nat) (x : α) (h : b ≠ a) : upd2 f a k x b = f b := by
  funext j; simp [upd2, h]
theorem upd2_k {α : Type} (f : Nat → Nat → α) (a : Nat) {j k : Nat} (x : α) (h : j ≠ k) : upd2 f a k x a j = f a j := by simp [upd2, h]
def sI (μ : Mem) (a k : Nat) (x : Int32) : Mem := (μ.1, upd2 μ.2.1 a k x, μ.2.2.1, μ.2.2.2)
def sL (μ : Mem) (a k : Nat) (x : Int64) : Mem := (μ.1, μ.2.1, upd2 μ.2.2.1 a k x, μ.2.2.2)
def sR (μ : Mem) (a k : Nat) (x : Option Nat) : Mem := (μ.1, μ.2.1, μ.2.2.1, upd2 μ.2.2.2 a k x)
/-- a cell comes, empty -/
def sN (μ : Mem) : Mem := (μ.1 + 1, (fun b j => if b = μ.1 then 0 else μ.2.1 b j), (fun b j => if b = μ.1 then 0 else μ.2.2.1 b j), (fun b j => if b = μ.1 then none else μ.2.2.2 b j))
theorem cellE_I (ω : Wd) (μ : Mem) {a b : Nat} (k : Nat) (x : Int32) (h : b ≠ a) : cellE ω (sI μ a k x) b = cellE ω μ b := by
  have e : (sI μ a k x).2.1 b = μ.2.1 b := upd2_a _ _ _ h
  have e2 : ∀ c, fvs ω (sI μ a k x) b c = fvs ω μ b c := fun c => by
    unfold fvs fval
    simp only [e]
    rfl
  unfold cellE
  simp only [e, e2]
  rfl
theorem cellE_L (ω : Wd) (μ : Mem) {a b : Nat} (k : Nat) (x : Int64) (h : b ≠ a) : cellE ω (sL μ a k x) b = cellE ω μ b := by
  have e : (sL μ a k x).2.2.1 b = μ.2.2.1 b := upd2_a _ _ _ h
  have e2 : ∀ c, fvs ω (sL μ a k x) b c = fvs ω μ b c := fun c => by
    unfold fvs fval
    simp only [e]
    rfl
  unfold cellE
  simp only [e, e2]
  rfl
theorem cellE_R (ω : Wd) (μ : Mem) {a b : Nat} (k : Nat) (x : Option Nat) (h : b ≠ a) : cellE ω (sR μ a k x) b = cellE ω μ b := by
  have e : (sR μ a k x).2.2.2 b = μ.2.2.2 b := upd2_a _ _ _ h
  have e2 : ∀ c, fvs ω (sR μ a k x) b c = fvs ω μ b c := fun c => by
    unfold fvs fval
    simp only [e]
    rfl
  unfold cellE
  simp only [e, e2]
  rfl
theorem wcs_set (ω : Wd) (μ ν : Mem) {a : Nat} (h1 : ν.1 = μ.1) (h : a < μ.1) (ho : ∀ b, b ≠ a → cellE ω ν b = cellE ω μ b) : (wcs ω μ).set a (ω.s0.heap.size + a, cellE ω ν a) = wcs ω ν := by
  apply List.ext_getElem?
  intro i
  rw [List.getElem?_set]
  simp only [wcs, List.length_map, List.length_range, List.getElem?_map, h1]
  by_cases e : a = i
  · subst e
    simp [h]
  · rw [if_neg e]
    by_cases hi : i < μ.1
    · simp [hi, ho i (fun q => e q.symm)]
    · simp [hi]
theorem wcs_new (ω : Wd) (μ : Mem) : wcs ω (sN μ) = wcs ω μ ++ [(ω.s0.heap.size + μ.1, cellE ω (sN μ) μ.1)] := by
  show (List.range (μ.1 + 1)).map _ = _
  rw [List.range_succ, List.map_append]
  congr 1
  apply List.map_congr_left
  intro b hb
  have hb' : b ≠ μ.1 := Nat.ne_of_lt (List.mem_range.mp hb)
  have e1 : (sN μ).2.1 b = μ.2.1 b := by funext j; simp [sN, hb']
  have e2 : (sN μ).2.2.1 b = μ.2.2.1 b := by funext j; simp [sN, hb']
  have e3 : (sN μ).2.2.2 b = μ.2.2.2 b := by funext j; simp [sN, hb']
  have e4 : ∀ c, fvs ω (sN μ) b c = fvs ω μ b c := fun c => by
    unfold fvs fval
    simp only [e1, e2, e3]
  unfold cellE
  simp only [e1, e2, e3, e4]

/-! ERRANDS: the best of all, as pairs (how many, how far) -/
def mxP (a b : Nat × Nat) : Nat × Nat := if a.1 < b.1 ∨ (a.1 = b.1 ∧ b.2 < a.2) then b else a
def cnd (B : Nat → Nat × Nat) (dp : Nat → Nat) (m j : Nat) : Nat × Nat := ((B (m ||| 2 ^ j)).1 + 1, (B (m ||| 2 ^ j)).2 + dp j)
def stepB (B : Nat → Nat × Nat) (dp : Nat → Nat) (m : Nat) : Nat → Nat × Nat
  | 0 => B m
  | j + 1 => if m.testBit j = false ∧ dp j < 9999 then mxP (stepB B dp m j) (cnd B dp m j) else stepB B dp m j
def bst (P : Nat) (d : Nat → Nat → Nat) : Nat → Nat → Nat × Nat
  | 0, _ => (0, 0)
  | f + 1, m => stepB (bst P d f) (d (P - (f + 1))) m P
def okE (f : Nat) (a : Nat × Nat) : Prop := a.2 ≤ 47 * a.1 ∧ a.1 ≤ f
theorem okE.mono {f : Nat} {a : Nat × Nat} (h : okE f a) : okE (f + 1) a := ⟨h.1, by have := h.2; omega⟩
theorem mxP_ok {f : Nat} {a b : Nat × Nat} (ha : okE f a) (hb : okE f b) : okE f (mxP a b) := by
  unfold mxP
  split
  · exact hb
  · exact ha
theorem cnd_ok {f : Nat} {B : Nat → Nat × Nat} {dp : Nat → Nat} {m j : Nat} (h : okE f (B (m ||| 2 ^ j))) (hd : dp j ≤ 47) : okE (f + 1) (cnd B dp m j) := by
  obtain ⟨h1, h2⟩ := h
  unfold cnd
  exact ⟨by show _ + dp j ≤ 47 * (_ + 1); omega, by show _ + 1 ≤ _; omega⟩
theorem stepB_ok {f : Nat} {B : Nat → Nat × Nat} {dp : Nat → Nat} (hB : ∀ m, okE f (B m)) (hd : ∀ j, dp j ≤ 47 ∨ dp j = 9999) (m : Nat) : ∀ j, okE (f + 1) (stepB B dp m j) := by
  intro j
  induction j with
  | zero => exact (hB m).mono
  | succ j ih =>
    show okE (f + 1) (if _ then _ else _)
    split
    · rename_i q
      exact mxP_ok ih (cnd_ok (hB _) (by have := hd j; omega))
    · exact ih
theorem bst_ok {P : Nat} {d : Nat → Nat → Nat} (hd : ∀ p j, d p j ≤ 47 ∨ d p j = 9999) : ∀ f m, okE f (bst P d f m) := by
  intro f
  induction f with
  | zero => intro m; exact ⟨Nat.le_refl _, Nat.le_refl _⟩
  | succ f ih => intro m; exact stepB_ok ih (hd _) m P
/-- such a pair as a number -/
def vlP (K : Nat) (a : Nat × Nat) : Int32 := I (K * a.1 - a.2)
theorem vlP_lt {K f : Nat} (hK : K = 1000 ∨ K = 10000) (hf : f ≤ 6) {a b : Nat × Nat} (ha : okE f a) (hb : okE f b) : (vlP K a < vlP K b) = (a.1 < b.1 ∨ (a.1 = b.1 ∧ b.2 < a.2)) := by
  obtain ⟨a1, a2⟩ := ha
  obtain ⟨b1, b2⟩ := hb
  unfold vlP
  rcases hK with rfl | rfl
  · rw [I_lt (by omega) (by omega)]; exact propext (by omega)
  · rw [I_lt (by omega) (by omega)]; exact propext (by omega)
theorem vlP_eq {K f : Nat} (hK : K = 1000 ∨ K = 10000) (hf : f ≤ 6) {a b : Nat × Nat} (ha : okE f a) (hb : okE f b) : (vlP K a = vlP K b) = (a = b) := by
  obtain ⟨a1, a2⟩ := ha
  obtain ⟨b1, b2⟩ := hb
  obtain ⟨x, y⟩ := a
  obtain ⟨z, w⟩ := b
  simp only at a1 a2 b1 b2
  unfold vlP
  apply propext
  rcases hK with rfl | rfl
  · rw [I_inj (by show 1000 * x - y < _; omega) (by show 1000 * z - w < _; omega), Prod.mk.injEq]
    show 1000 * x - y = 1000 * z - w ↔ _
    omega
  · rw [I_inj (by show 10000 * x - y < _; omega) (by show 10000 * z - w < _; omega), Prod.mk.injEq]
    show 10000 * x - y = 10000 * z - w ↔ _
    omega
theorem vlP_mx {K f : Nat} (hK : K = 1000 ∨ K = 10000) (hf : f ≤ 6) {a b : Nat × Nat} (ha : okE f a) (hb : okE f b) : vlP K (mxP a b) = if vlP K a < vlP K b then vlP K b else vlP K a := by
  unfold mxP
  by_cases q : a.1 < b.1 ∨ (a.1 = b.1 ∧ b.2 < a.2)
  · rw [if_pos q, if_pos (by rw [vlP_lt hK hf ha hb]; exact q)]
  · rw [if_neg q, if_neg (by rw [vlP_lt hK hf ha hb]; exact q)]
theorem vlP_cnd {K f : Nat} (hK : K = 1000 ∨ K = 10000) {B : Nat → Nat × Nat} {dp : Nat → Nat} {m j : Nat} (h : okE f (B (m ||| 2 ^ j))) (hd : dp j ≤ 47) : (I K - I (dp j)) + vlP K (B (m ||| 2 ^ j)) = vlP K (cnd B dp m j) := by
  obtain ⟨h1, h2⟩ := h
  unfold vlP cnd
  rw [I_sub (by omega), I_add]
  congr 1
  show K - dp j + (K * (B (m ||| 2 ^ j)).1 - (B (m ||| 2 ^ j)).2) = K * ((B (m ||| 2 ^ j)).1 + 1) - ((B (m ||| 2 ^ j)).2 + dp j)
  rcases hK with rfl | rfl <;> omega
/-- how many, how far in all -/
theorem vlP_n {f : Nat} (hf : f ≤ 6) {a : Nat × Nat} (ha : okE f a) : ((vlP 1000 a + (1000 : Int32)) - (1 : Int32)) / (1000 : Int32) = I a.1 ∧ (vlP 10000 a + (9999 : Int32)) / (10000 : Int32) = I a.1 ∧ (I a.1 * (1000 : Int32)) - vlP 1000 a = I a.2 ∧ ((10000 : Int32) * I a.1) - vlP 10000 a = I a.2 := by
  obtain ⟨a1, a2⟩ := ha
  obtain ⟨x, y⟩ := a
  simp only at a1 a2
  have : ∀ x : Fin 7, ∀ y : Fin 283, y.1 ≤ 47 * x.1 → (((vlP 1000 (x.1, y.1) + (1000 : Int32)) - (1 : Int32)) / (1000 : Int32) = I x.1 ∧ (vlP 10000 (x.1, y.1) + (9999 : Int32)) / (10000 : Int32) = I x.1 ∧ (I x.1 * (1000 : Int32)) - vlP 1000 (x.1, y.1) = I y.1 ∧ ((10000 : Int32) * I x.1) - vlP 10000 (x.1, y.1) = I y.1) := by decide +kernel
  exact this ⟨x, by omega⟩ ⟨y, by omega⟩ a1
/-- masks -/
theorem msk_or : ∀ m : Fin 64, ∀ j : Fin 6, (I m.1 ||| ((1 : Int32) <<< (I j.1 &&& 31))) = I (m.1 ||| 2 ^ j.1) ∧ m.1 ||| 2 ^ j.1 < 64 := by decide +kernel
theorem msk_bit : ∀ m : Fin 64, ∀ j : Fin 6, (((I m.1 >>> (I j.1 &&& 31)) &&& (1 : Int32)) = 0) = (m.1.testBit j.1 = false) := by
  have : ∀ m : Fin 64, ∀ j : Fin 6, decide (((I m.1 >>> (I j.1 &&& 31)) &&& (1 : Int32)) = 0) = !(m.1.testBit j.1) := by decide +kernel
  intro m j
  have h := this m j
  apply propext
  constructor
  · intro q
    rw [decide_eq_true q] at h
    cases z : m.1.testBit j.1
    · rfl
    · rw [z] at h; cases h
  · intro q
    rw [q] at h
    exact of_decide_eq_true h
theorem msk_P : ∀ P : Fin 7, ((1 : Int32) <<< (I P.1 &&& 31)) = I (2 ^ P.1) ∧ 2 ^ P.1 ≤ 64 := by decide +kernel
theorem msk_in {P m j : Nat} (hP : P ≤ 6) (hm : m < 2 ^ P) (hj : j < P) : m ||| 2 ^ j < 2 ^ P := Nat.or_lt_two_pow hm (Nat.pow_lt_pow_right (by omega) hj)
theorem msk_bitC : ∀ m : Fin 64, ∀ j : Fin 6, (((((I m.1).toUInt32 >>> ((I j.1).toUInt32 &&& Int32.toUInt32 31)).toInt32) &&& (1 : Int32)) = 0) = (m.1.testBit j.1 = false) := by
  have : ∀ m : Fin 64, ∀ j : Fin 6, decide (((((I m.1).toUInt32 >>> ((I j.1).toUInt32 &&& Int32.toUInt32 31)).toInt32) &&& (1 : Int32)) = 0) = !(m.1.testBit j.1) := by decide +kernel
  intro m j
  have h := this m j
  apply propext
  constructor
  · intro q
    rw [decide_eq_true q] at h
    cases z : m.1.testBit j.1
    · rfl
    · rw [z] at h; cases h
  · intro q
    rw [q] at h
    exact of_decide_eq_true h

/-! THE PICTURE: deeds, people, sizes; a row of numbers as the reference has it; who is beside whom; how far it is -/
abbrev Cel : Type := Nat × Nat × (Nat → Nat)
abbrev Cel.D (C : Cel) : Nat := C.1
abbrev Cel.P (C : Cel) : Nat := C.2.1
abbrev Cel.z (C : Cel) : Nat → Nat := C.2.2
def Cel.ok (C : Cel) : Prop := C.D ≤ 6 ∧ C.P ≤ 6 ∧ ∀ d, d < C.D → 1 ≤ C.z d ∧ C.z d ≤ 8
abbrev Row : Type := Nat → Int32
def there (C : Cel) (x : Nat) : Bool := decide (x / 8 < C.D) && decide (x % 8 < C.z (x / 8))
theorem there_iff {C : Cel} {x : Nat} : there C x = true ↔ x / 8 < C.D ∧ x % 8 < C.z (x / 8) := by unfold there; simp
theorem there_lt {C : Cel} (hC : C.ok) {x : Nat} (h : there C x = true) : x < 48 := by
  have h1 := (there_iff.mp h).1
  have h2 := hC.1
  omega
/-- a bit of an int -/
def tb (v : Int32) (k : Nat) : Bool := v.toBitVec.getLsbD k
theorem and1 (v : Int32) : (v &&& 1 = 1) = (v.toBitVec.getLsbD 0 = true) := by
  apply propext
  rw [← Int32.toBitVec_inj]
  show v.toBitVec &&& 1#32 = 1#32 ↔ _
  constructor
  · intro h
    have := congrArg (fun b => BitVec.getLsbD b 0) h
    simpa using this
  · intro h
    apply BitVec.eq_of_getLsbD_eq
    intro i hi
    rw [BitVec.getLsbD_and, BitVec.getLsbD_one]
    by_cases e : i = 0
    · subst e; simp [h]
    · simp [e]
theorem shr31 : ∀ k : Fin 32, (I k.1 &&& (31 : Int32)).toBitVec.smod 32 = BitVec.ofNat 32 k.1 := by decide +kernel
theorem tb_sh {v : Int32} {k : Nat} (hk : k < 32) : ((v >>> (I k &&& 31)) &&& 1 = 1) = (tb v k = true) := by
  rw [and1, Int32.toBitVec_shiftRight]
  have h := shr31 ⟨k, hk⟩
  simp only at h
  rw [show (I k &&& (31 : Int32)).toBitVec.smod (32 : BitVec 32) = _ from h]
  unfold tb
  rw [BitVec.sshiftRight_eq', BitVec.getLsbD_sshiftRight]
  have h2 : (BitVec.ofNat 32 k).toNat = k := by
    rw [BitVec.toNat_ofNat]; omega
  rw [h2]
  simp only [Nat.add_zero]
  rw [if_pos hk]
  simp
/-- a stile from this place to the next deed's -/
def stl (r : Row) (x : Nat) : Bool := decide (x < 48) && tb (r (49 + x / 8)) (x % 8)
def adj (C : Cel) (r : Row) (x y : Nat) : Bool := (decide (y = x + 1) && decide (x % 8 + 1 < C.z (x / 8))) || (decide (x = y + 1) && decide (y % 8 + 1 < C.z (y / 8))) || (decide (y = x + 8) && stl r x) || (decide (x = y + 8) && stl r y)
theorem adj_iff {C : Cel} {r : Row} {x y : Nat} : adj C r x y = true ↔ (y = x + 1 ∧ x % 8 + 1 < C.z (x / 8)) ∨ (x = y + 1 ∧ y % 8 + 1 < C.z (y / 8)) ∨ (y = x + 8 ∧ stl r x = true) ∨ (x = y + 8 ∧ stl r y = true) := by
  unfold adj
  simp [or_assoc]
theorem adj_symm {C : Cel} {r : Row} {x y : Nat} : adj C r x y = adj C r y x := by
  apply Bool.eq_iff_iff.mpr
  rw [adj_iff, adj_iff]
  constructor
  · rintro (h | h | h | h)
    · exact Or.inr (Or.inl h)
    · exact Or.inl h
    · exact Or.inr (Or.inr (Or.inr h))
    · exact Or.inr (Or.inr (Or.inl h))
  · rintro (h | h | h | h)
    · exact Or.inr (Or.inl h)
    · exact Or.inl h
    · exact Or.inr (Or.inr (Or.inr h))
    · exact Or.inr (Or.inr (Or.inl h))
/-- stiles stand only between places that are there -/
def StOK (C : Cel) (r : Row) : Prop := ∀ x, stl r x = true → there C x = true ∧ there C (x + 8) = true
theorem adj_there {C : Cel} {r : Row} (hC : C.ok) (hs : StOK C r) {x y : Nat} (hx : there C x = true) (h : adj C r x y = true) : there C y = true := by
  have h0 := there_iff.mp hx
  have h1 := hC.2.2 _ h0.1
  have hx48 := there_lt hC hx
  rcases adj_iff.mp h with ⟨rfl, h2⟩ | ⟨rfl, h2⟩ | ⟨rfl, h2⟩ | ⟨rfl, h2⟩
  · have e1 : (x + 1) / 8 = x / 8 := by omega
    have e2 : (x + 1) % 8 = x % 8 + 1 := by omega
    rw [there_iff, e1, e2]
    exact ⟨h0.1, h2⟩
  · have hy : y % 8 + 1 < 8 ∨ y % 8 = 7 := by omega
    rcases hy with hy | hy
    · have e1 : (y + 1) / 8 = y / 8 := by omega
      rw [e1] at h0
      rw [there_iff]
      exact ⟨h0.1, by omega⟩
    · by_cases hd : y / 8 < C.D
      · have := hC.2.2 _ hd
        omega
      · have e1 : (y + 1) / 8 = y / 8 + 1 := by omega
        rw [e1] at h0
        omega
  · exact (hs x h2).2
  · exact (hs y h2).1
/-- a way of so many steps to a place: all but the first one are open -/
def rch (A : Nat → Nat → Bool) (W : Nat → Bool) (to : Nat) : Nat → Nat → Prop
  | 0, y => y = to
  | k + 1, y => ∃ x, A y x = true ∧ W x = true ∧ rch A W to k x
def IsD (A : Nat → Nat → Bool) (W : Nat → Bool) (to y k : Nat) : Prop := rch A W to k y ∧ ∀ j, j < k → ¬ rch A W to j y
theorem least {p : Nat → Prop} (k : Nat) (h : p k) : ∃ m, m ≤ k ∧ p m ∧ ∀ j, j < m → ¬ p j := by
  induction k using Nat.strongRecOn with
  | ind k ih =>
    by_cases q : ∃ j, j < k ∧ p j
    · obtain ⟨j, h1, h2⟩ := q
      obtain ⟨m, a, b, c⟩ := ih j h1 h2
      exact ⟨m, by omega, b, c⟩
    · exact ⟨k, Nat.le_refl k, h, fun j hj hp => q ⟨j, hj, hp⟩⟩
theorem IsD.of {A : Nat → Nat → Bool} {W : Nat → Bool} {to y k : Nat} (h : rch A W to k y) : ∃ m, m ≤ k ∧ IsD A W to y m := least k h
theorem IsD.uniq {A : Nat → Nat → Bool} {W : Nat → Bool} {to y k m : Nat} (h : IsD A W to y k) (h' : IsD A W to y m) : k = m := by
  rcases Nat.lt_trichotomy k m with q | q | q
  · exact absurd h.1 (h'.2 k q)
  · exact q
  · exact absurd h'.1 (h.2 m q)
noncomputable def dst (A : Nat → Nat → Bool) (W : Nat → Bool) (to y : Nat) : Nat := @dite Nat (∃ k, IsD A W to y k) (Classical.propDecidable _) (fun h => Classical.choose h) (fun _ => 9999)
theorem dst_of {A : Nat → Nat → Bool} {W : Nat → Bool} {to y k : Nat} (h : IsD A W to y k) : dst A W to y = k := by
  unfold dst
  have q : ∃ k, IsD A W to y k := ⟨k, h⟩
  rw [dif_pos q]
  exact (Classical.choose_spec q).uniq h
theorem dst_no {A : Nat → Nat → Bool} {W : Nat → Bool} {to y : Nat} (h : ∀ k, ¬ rch A W to k y) : dst A W to y = 9999 := by
  unfold dst
  rw [dif_neg]
  rintro ⟨k, hk⟩
  exact h k hk.1
/-- the nearest one on a shortest way -/
theorem IsD.step {A : Nat → Nat → Bool} {W : Nat → Bool} {to y k : Nat} (h : IsD A W to y (k + 1)) : ∃ x, A y x = true ∧ W x = true ∧ IsD A W to x k := by
  obtain ⟨x, a, b, c⟩ := h.1
  exact ⟨x, a, b, c, fun j hj hr => h.2 (j + 1) (by omega) ⟨x, a, b, hr⟩⟩
theorem IsD.pre {A : Nat → Nat → Bool} {W : Nat → Bool} {to y k : Nat} (h : IsD A W to y k) : ∀ j, j ≤ k → ∃ x, IsD A W to x j := by
  induction k generalizing y with
  | zero =>
    intro j hj
    obtain rfl : j = 0 := by omega
    exact ⟨y, h⟩
  | succ k ih =>
    intro j hj
    by_cases e : j = k + 1
    · subst e; exact ⟨y, h⟩
    · obtain ⟨x, _, _, hx⟩ := h.step
      exact ih hx j (by omega)
/-- what a number for a place says: -1 none -/
def enc : Option Nat → Int32
  | none => -1
  | some x => I x
/-- the neighbour above, below, over a stile before, behind -/
def nbr (C : Cel) (r : Row) (x : Nat) : Nat → Option Nat
  | 0 => if x % 8 = 0 then none else some (x - 1)
  | 1 => if x % 8 + 1 = C.z (x / 8) then none else some (x + 1)
  | 2 => if 0 < x / 8 ∧ stl r (x - 8) = true then some (x - 8) else none
  | _ => if x / 8 + 1 < C.D ∧ stl r x = true then some (x + 8) else none
theorem nbr_0 (C : Cel) (r : Row) (x : Nat) : nbr C r x 0 = if x % 8 = 0 then none else some (x - 1) := rfl
theorem nbr_1 (C : Cel) (r : Row) (x : Nat) : nbr C r x 1 = if x % 8 + 1 = C.z (x / 8) then none else some (x + 1) := rfl
theorem nbr_2 (C : Cel) (r : Row) (x : Nat) : nbr C r x 2 = if 0 < x / 8 ∧ stl r (x - 8) = true then some (x - 8) else none := rfl
theorem nbr_3 (C : Cel) (r : Row) (x : Nat) : nbr C r x 3 = if x / 8 + 1 < C.D ∧ stl r x = true then some (x + 8) else none := rfl
theorem nbr_adj {C : Cel} {r : Row} (hC : C.ok) (hs : StOK C r) {x y : Nat} (hx : there C x = true) : adj C r x y = true ↔ ∃ w, w < 4 ∧ nbr C r x w = some y := by
  have h0 := there_iff.mp hx
  have h1 := hC.2.2 _ h0.1
  have hx48 := there_lt hC hx
  constructor
  · intro h
    rcases adj_iff.mp h with ⟨rfl, h2⟩ | ⟨rfl, h2⟩ | ⟨rfl, h2⟩ | ⟨rfl, h2⟩
    · refine ⟨1, by omega, ?_⟩
      rw [nbr_1]
      rw [if_neg (by omega)]
    · refine ⟨0, by omega, ?_⟩
      rw [nbr_0]
      rw [if_neg]
      · rfl
      · intro q
        have e1 : y / 8 + 1 = (y + 1) / 8 := by omega
        have := hC.2.2 (y / 8) (by omega)
        omega
    · refine ⟨3, by omega, ?_⟩
      rw [nbr_3]
      have := (there_iff.mp (hs x h2).2).1
      rw [if_pos ⟨by omega, h2⟩]
    · refine ⟨2, by omega, ?_⟩
      rw [nbr_2]
      rw [if_pos ⟨by omega, by rw [Nat.add_sub_cancel]; exact h2⟩, Nat.add_sub_cancel]
  · rintro ⟨w, hw, h⟩
    rw [adj_iff]
    have hw4 : w = 0 ∨ w = 1 ∨ w = 2 ∨ w = 3 := by omega
    rcases hw4 with rfl | rfl | rfl | rfl
    · rw [nbr_0] at h
      split at h
      · cases h
      · obtain rfl : x - 1 = y := Option.some.inj h
        right; left
        have e1 : (x - 1) / 8 = x / 8 := by omega
        rw [e1]
        omega
    · rw [nbr_1] at h
      split at h
      · cases h
      · obtain rfl : x + 1 = y := Option.some.inj h
        left
        omega
    · rw [nbr_2] at h
      split at h
      · rename_i q
        obtain rfl : x - 8 = y := Option.some.inj h
        right; right; right
        exact ⟨by omega, q.2⟩
      · cases h
    · rw [nbr_3] at h
      split at h
      · rename_i q
        obtain rfl : x + 8 = y := Option.some.inj h
        right; right; left
        exact ⟨rfl, q.2⟩
      · cases h

/-! STATE: its functions -/
theorem fuel_6 : fuel = 4993 + 7 := rfl
theorem inb_6 : ∀ j : Fin 6, inb (Int32.ofNat j.1) 6 = true ∧ ix (Int32.ofNat j.1) = j.1 := by decide
theorem ldI6 {μ : Mem} {a : Nat} (hk : kd a = (0, 6)) (j : Fin 6) : ldI μ a (Int32.ofNat j.1) = some (μ.2.1 a j.1) := by
  unfold ldI
  rw [hk, (inb_6 j).2]
  exact if_pos (inb_6 j).1
theorem lt6 : ∀ j : Fin 6, Int32.ofNat j.1 < (6 : Int32) := by decide
theorem inc6 : ∀ j : Fin 6, Int32.ofNat j.1 + (1 : Int32) = Int32.ofNat (j.1 + 1) := by decide
/-- how many people of the state a are at p -/
def cntAt (μ : Mem) (a : Nat) (p : Int32) : Nat → Int32
  | 0 => 0
  | j + 1 => cntAt μ a p j + if μ.2.1 (a + 2) j = p then 1 else 0
theorem crowd_loop {μ : Mem} (h : Gr μ) {a : Nat} (ha : a ∈ stA) {p : Int32} (hp : p ≠ -1) : ∀ (i j n : Nat), i + j = 6 → i < n → fX9_crowd_4 μ n a p (cntAt μ a p j) (Int32.ofNat j) = some (cntAt μ a p 6) := by
  intro i
  induction i with
  | zero =>
    intro j n hj hn
    obtain ⟨n, rfl⟩ : ∃ m, n = m + 1 := ⟨n - 1, by omega⟩
    obtain rfl : j = 6 := by omega
    unfold fX9_crowd_4
    rw [if_neg (by decide)]
  | succ i ih =>
    intro j n hj hn
    obtain ⟨n, rfl⟩ : ∃ m, n = m + 1 := ⟨n - 1, by omega⟩
    have hj6 : j < 6 := by omega
    unfold fX9_crowd_4
    rw [if_pos (lt6 ⟨j, hj6⟩), if_neg hp, h.at ha, Option.bind_some, ldI6 (st_at a ha).2 ⟨j, hj6⟩, Option.bind_some, inc6 ⟨j, hj6⟩]
    have e := ih (j + 1) n (by omega) (by omega)
    unfold cntAt at e
    split
    · rename_i hq
      rw [if_pos hq] at e
      exact e
    · rename_i hq
      rw [if_neg hq, Int32.add_zero] at e
      exact e
theorem crowd_ok {μ : Mem} (h : Gr μ) {a : Nat} (ha : a ∈ stA) {p : Int32} (hp : p ≠ -1) : fX9_crowd a p μ = some (cntAt μ a p 6) :=
  crowd_loop h ha hp 6 0 fuel rfl (by decide)

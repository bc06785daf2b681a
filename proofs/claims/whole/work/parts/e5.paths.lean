/-! WAYS: how many shortest ones; sums, and how large they can get -/
def sMn (f : Nat → Nat) : Nat → Nat
  | 0 => 0
  | n + 1 => sMn f n + f n
theorem sMn_congr {f g : Nat → Nat} {n : Nat} (h : ∀ x, x < n → f x = g x) : sMn f n = sMn g n := by
  induction n with
  | zero => rfl
  | succ n ih => unfold sMn; rw [ih (fun x hx => h x (by omega)), h n (by omega)]
theorem sMn_le {p : Nat → Bool} {f : Nat → Nat} {M n : Nat} (h : ∀ x, x < n → f x ≤ if p x = true then M else 0) : sMn f n ≤ cnt p n * M := by
  induction n with
  | zero => exact Nat.zero_le _
  | succ n ih =>
    unfold sMn cnt
    have h1 := ih (fun x hx => h x (by omega))
    have h2 := h n (by omega)
    rw [Nat.add_mul]
    split <;> rename_i q
    · rw [if_pos q] at h2; omega
    · rw [if_neg q] at h2; omega
theorem sMn_0 {f : Nat → Nat} {n : Nat} (h : ∀ x, x < n → f x = 0) : sMn f n = 0 := by
  induction n with
  | zero => rfl
  | succ n ih => unfold sMn; rw [ih (fun x hx => h x (by omega)), h n (by omega)]
/-- one term taken out -/
theorem sMn_out {f g : Nat → Nat} {k n : Nat} (hk : k < n) (h0 : g k = 0) (h : ∀ x, x < n → x ≠ k → g x = f x) : sMn f n = f k + sMn g n := by
  induction n with
  | zero => omega
  | succ n ih =>
    unfold sMn
    by_cases e : k = n
    · subst e
      rw [h0, sMn_congr (f := g) (g := f) (fun x hx => h x (by omega) (by omega))]
      omega
    · rw [ih (by omega) (fun x hx hn => h x (by omega) hn), h n (by omega) (fun q => e q.symm)]
      omega
theorem cnt_or2 {p q s : Nat → Bool} {n : Nat} (h : ∀ x, x < n → s x = (p x || q x)) (hd : ∀ x, x < n → ¬ (p x = true ∧ q x = true)) : cnt s n = cnt p n + cnt q n := by
  induction n with
  | zero => rfl
  | succ n ih =>
    have h1 := ih (fun x hx => h x (by omega)) (fun x hx => hd x (by omega))
    have h2 := h n (by omega)
    have h3 := hd n (by omega)
    unfold cnt
    rw [h1, h2]
    cases hp : p n <;> cases hq : q n <;> simp [hp, hq] at h3 ⊢ <;> omega
theorem cnt_orle {p q s : Nat → Bool} {n : Nat} (h : ∀ x, x < n → s x = true → p x = true ∨ q x = true) : cnt s n ≤ cnt p n + cnt q n := by
  induction n with
  | zero => exact Nat.le_refl _
  | succ n ih =>
    have h1 := ih (fun x hx => h x (by omega))
    have h2 := h n (by omega)
    unfold cnt
    cases hs : s n <;> cases hp : p n <;> cases hq : q n <;> simp [hs, hp, hq] at h2 ⊢ <;> omega
theorem cnt_one (a n : Nat) : cnt (fun z => decide (z = a)) n ≤ 1 := by
  have : cnt (fun z => decide (z = a)) n = if a < n then 1 else 0 := by
    induction n with
    | zero => rfl
    | succ n ih =>
      unfold cnt
      rw [ih]
      by_cases h : n = a
      · subst h; simp
      · simp only [decide_eq_false h]
        by_cases h2 : a < n
        · rw [if_pos h2, if_pos (show a < n + 1 by omega)]; rfl
        · rw [if_neg h2, if_neg (show ¬ a < n + 1 by omega)]; rfl
  rw [this]
  split <;> omega
theorem cnt4 {p : Nat → Bool} {a b c d n : Nat} (h : ∀ x, x < n → p x = true → x = a ∨ x = b ∨ x = c ∨ x = d) : cnt p n ≤ 4 := by
  have h1 := cnt_one a n
  have h2 := cnt_one b n
  have h3 := cnt_one c n
  have h4 := cnt_one d n
  have e1 := cnt_orle (n := n) (s := p) (p := fun z => decide (z = a)) (q := fun z => p z && !decide (z = a)) (fun x hx hp => by
    by_cases e : x = a
    · exact Or.inl (decide_eq_true e)
    · exact Or.inr (by rw [hp, decide_eq_false e]; rfl))
  have e2 := cnt_orle (n := n) (s := fun z => p z && !decide (z = a)) (p := fun z => decide (z = b)) (q := fun z => p z && !decide (z = a) && !decide (z = b)) (fun x hx hp => by
    by_cases e : x = b
    · exact Or.inl (decide_eq_true e)
    · exact Or.inr (by rw [hp, decide_eq_false e]; rfl))
  have e3 := cnt_orle (n := n) (s := fun z => p z && !decide (z = a) && !decide (z = b)) (p := fun z => decide (z = c)) (q := fun z => decide (z = d)) (fun x hx hp => by
    simp only [Bool.and_eq_true, Bool.not_eq_true', decide_eq_false_iff_not] at hp
    rcases h x hx hp.1.1 with q | q | q | q
    · exact absurd q hp.1.2
    · exact absurd q hp.2
    · exact Or.inl (decide_eq_true q)
    · exact Or.inr (decide_eq_true q))
  omega
theorem cube3 : ∀ n : Fin 49, n.1 ^ 3 ≤ 3 ^ n.1 := by decide +kernel
theorem clr_low {v : Int64} {k : Nat} (hk : k < 64) (h1 : mb v k = true) (h2 : ∀ j, j < k → mb v j = false) (x : Nat) : mb (v &&& (v - 1)) x = (mb v x && !decide (x = k)) := by
  by_cases hx : x < 64
  · have e : (v - 1).toBitVec = ~~~(-v).toBitVec := by
      rw [Int64.toBitVec_neg, BitVec.not_neg]
      rfl
    have h3 : mb (v &&& -v) x = decide (x = k) := by rw [low_and hk h1 h2, mb_bit hk]
    rw [mb_and] at h3 ⊢
    have h4 : mb (v - 1) x = !mb (-v) x := by
      unfold mb
      rw [e, BitVec.getLsbD_not]
      simp [hx]
    rw [h4, ← h3]
    cases mb v x <;> cases mb (-v) x <;> rfl
  · rw [mb_ge (by omega), mb_ge (by omega)]; rfl
section Pa
variable {C : Cel} {r : Row}
/-- how many ways from x so far, level by level -/
noncomputable def pT (C : Cel) (r : Row) (to x : Nat) : Nat → Nat → Nat
  | 0, y => if y = x then 1 else 0
  | i + 1, y => if wh C r y = true ∧ dR C r to y + (i + 1) = dR C r to x then sMn (fun z => if adj C r z y = true ∧ dR C r to z + i = dR C r to x then pT C r to x i z else 0) 48 else pT C r to x i y
theorem pT_lo (to x : Nat) : ∀ i y, dR C r to y + i < dR C r to x → pT C r to x i y = 0 := by
  intro i
  induction i with
  | zero =>
    intro y h
    show (if y = x then 1 else 0) = 0
    rw [if_neg (fun e => by subst e; omega)]
  | succ i ih =>
    intro y h
    show (if _ then _ else _) = 0
    rw [if_neg (by omega), ih y (by omega)]
theorem pT_bound (to x : Nat) : ∀ i, ∃ M, M ^ 3 ≤ 3 ^ cnt (fun z => decide (dR C r to z ≤ dR C r to x ∧ dR C r to x < dR C r to z + i)) 48 ∧ ∀ y, pT C r to x i y ≤ M := by
  intro i
  induction i with
  | zero =>
    refine ⟨1, ?_, fun y => ?_⟩
    · rw [Nat.one_pow]; exact Nat.one_le_pow _ _ (by omega)
    · show (if y = x then 1 else 0) ≤ 1
      split <;> omega
  | succ i ih =>
    obtain ⟨M, h1, h2⟩ := ih
    have hN := cnt_le (fun z => decide (dR C r to z + i = dR C r to x)) 48
    have hc := cnt_or2 (n := 48) (s := fun z => decide (dR C r to z ≤ dR C r to x ∧ dR C r to x < dR C r to z + (i + 1))) (p := fun z => decide (dR C r to z ≤ dR C r to x ∧ dR C r to x < dR C r to z + i)) (q := fun z => decide (dR C r to z + i = dR C r to x)) (fun z _ => by
      rw [← Bool.decide_or]
      apply decide_eq_decide.mpr
      omega) (fun z _ h => by
      have a := of_decide_eq_true h.1
      have b := of_decide_eq_true h.2
      omega)
    generalize hNe : cnt (fun z => decide (dR C r to z + i = dR C r to x)) 48 = N at hN hc
    rw [hc]
    refine ⟨max M (N * M), ?_, fun y => ?_⟩
    · have p1 : (N * M) ^ 3 ≤ 3 ^ (cnt (fun z => decide (dR C r to z ≤ dR C r to x ∧ dR C r to x < dR C r to z + i)) 48 + N) := by
        rw [Nat.mul_pow, Nat.pow_add, Nat.mul_comm]
        exact Nat.mul_le_mul h1 (cube3 ⟨N, by omega⟩)
      have p2 : M ^ 3 ≤ 3 ^ (cnt (fun z => decide (dR C r to z ≤ dR C r to x ∧ dR C r to x < dR C r to z + i)) 48 + N) := Nat.le_trans h1 (Nat.pow_le_pow_right (by omega) (by omega))
      rcases Nat.le_total M (N * M) with q | q
      · rw [Nat.max_eq_right q]; exact p1
      · rw [Nat.max_eq_left q]; exact p2
    · show (if _ then _ else _) ≤ _
      split
      · have := sMn_le (p := fun z => decide (dR C r to z + i = dR C r to x)) (f := fun z => if adj C r z y = true ∧ dR C r to z + i = dR C r to x then pT C r to x i z else 0) (M := M) (n := 48) (fun z _ => by
          by_cases e : dR C r to z + i = dR C r to x
          · rw [if_pos (decide_eq_true e)]
            split
            · exact h2 z
            · omega
          · rw [if_neg (fun q => e q.2), if_neg (by rw [decide_eq_false e]; decide)]
            omega)
        rw [hNe] at this
        omega
      · have := h2 y
        omega
theorem pT_lt (to x i y : Nat) : pT C r to x i y < 2147483648 := by
  obtain ⟨M, h1, h2⟩ := pT_bound (C := C) (r := r) to x i
  have h3 := h2 y
  have h4 : M ^ 3 ≤ 3 ^ 48 := Nat.le_trans h1 (Nat.pow_le_pow_right (by omega) (cnt_le _ _))
  by_cases h : M < 2147483648
  · omega
  · have h5 : 2147483648 ^ 3 ≤ M ^ 3 := Nat.pow_le_pow_left (by omega) 3
    have h6 : (3 : Nat) ^ 48 < 2147483648 ^ 3 := by decide +kernel
    omega
/-- a mask's places, summed -/
theorem over_ok {μ : Mem} (hG : Gr μ) {T : Nat → Nat} (hT : ∀ z, z < 48 → μ.2.1 470 z = I (T z)) : ∀ f m s j (M : Int64), f < m → (∀ z, mb M z = true → z < 48) → cnt (mb M) 48 ≤ f → f + j ≤ 4 → fX5_pathsOver_8 μ m 468 (I s) M (I j) = some (I (s + sMn (fun z => if mb M z = true then T z else 0) 48)) := by
  intro f
  induction f with
  | zero =>
    intro m s j M h1 h2 h3 h4
    obtain ⟨m, rfl⟩ : ∃ z, m = z + 1 := ⟨m - 1, by omega⟩
    have h0 : ∀ z, mb M z = false := by
      intro z
      cases e : mb M z
      · rfl
      · have := cnt_lt (p := fun _ => false) (q := mb M) (h2 z e) rfl e (fun _ _ h => by cases h)
        omega
    have hM : M = 0 := mb_ext (fun z _ => by rw [h0 z, mb0])
    rw [fX5_pathsOver_8, sMn_0 (fun z _ => by rw [h0 z]; rfl), Nat.add_zero]
    by_cases hj : I j < (4 : Int32)
    · rw [if_pos hj, if_pos hM]
    · rw [if_neg hj]
  | succ f ih =>
    intro m s j M h1 h2 h3 h4
    obtain ⟨m, rfl⟩ : ∃ z, m = z + 1 := ⟨m - 1, by omega⟩
    rw [fX5_pathsOver_8, if_pos (show I j < (4 : Int32) by rw [show (4 : Int32) = I 4 from rfl, I_lt (by omega) (by omega)]; omega)]
    by_cases hM : M = 0
    · rw [if_pos hM, sMn_0 (fun z _ => by rw [hM, mb0]; rfl), Nat.add_zero]
    · obtain ⟨k, k1, k2, k3⟩ := low_ex hM
      have hk48 := h2 k k2
      rw [if_neg hM, g_468_4 hG, bs, lowest_ok k1 k2 k3, ld_470 hk48, bs, hT k hk48, I_add, show I j + (1 : Int32) = I (j + 1) from I_add j 1]
      have hc : ∀ z, mb (M &&& (M - 1)) z = (mb M z && !decide (z = k)) := clr_low k1 k2 k3
      have hcn : cnt (mb (M &&& (M - 1))) 48 < cnt (mb M) 48 := cnt_lt hk48 (by rw [hc, k2, decide_eq_true rfl]; rfl) k2 (fun z _ h => by rw [hc, Bool.and_eq_true] at h; exact h.1)
      rw [ih m (s + T k) (j + 1) (M &&& (M - 1)) (by omega) (fun z h => h2 z (by rw [hc, Bool.and_eq_true] at h; exact h.1)) (by omega) (by omega)]
      have := sMn_out (f := fun z => if mb M z = true then T z else 0) (g := fun z => if mb (M &&& (M - 1)) z = true then T z else 0) (k := k) hk48 (by rw [hc, k2, decide_eq_true rfl]; rfl) (fun z _ hz => by rw [hc, decide_eq_false hz, Bool.not_false, Bool.and_true])
      simp only [if_pos k2] at this
      rw [this, Nat.add_assoc]
end Pa

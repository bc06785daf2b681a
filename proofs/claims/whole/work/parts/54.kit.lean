/-! KIT: small ints, loops, rows -/
abbrev I (n : Nat) : Int32 := Int32.ofNat n
theorem I_lt {n m : Nat} (hn : n < 2147483648) (hm : m < 2147483648) : (I n < I m) = (n < m) := propext (Int32.ofNat_lt_iff_lt hn hm)
theorem I_le {n m : Nat} (hn : n < 2147483648) (hm : m < 2147483648) : (I n ≤ I m) = (n ≤ m) := propext (Int32.ofNat_le_iff_le hn hm)
theorem I_ltl {n m : Nat} (hn : n < 2147483648) (hm : (OfNat.ofNat m : Nat) < 2147483648) : (I n < (no_index (OfNat.ofNat m) : Int32)) = (n < OfNat.ofNat m) := I_lt hn hm
theorem l_ltI {n m : Nat} (hn : n < 2147483648) (hm : (OfNat.ofNat m : Nat) < 2147483648) : ((no_index (OfNat.ofNat m) : Int32) < I n) = (OfNat.ofNat m < n) := I_lt hm hn
theorem I_nat {n : Nat} (hn : n < 2147483648) : (I n).toInt = n := Int32.toInt_ofNat_of_lt hn
theorem I_inj {n m : Nat} (hn : n < 2147483648) (hm : m < 2147483648) : (I n = I m) = (n = m) := by
  apply propext
  constructor
  · intro h
    have h1 := congrArg Int32.toInt h
    rw [I_nat hn, I_nat hm] at h1
    omega
  · rintro rfl; rfl
theorem I_eql {n m : Nat} (hn : n < 2147483648) (hm : (OfNat.ofNat m : Nat) < 2147483648) : (I n = (no_index (OfNat.ofNat m) : Int32)) = (n = OfNat.ofNat m) := I_inj hn hm
theorem I_neg {n : Nat} (hn : n < 2147483648) : ¬ (I n < 0) := by
  intro h
  have := (I_lt (m := 0) hn (by omega)).mp h
  omega
theorem I_m1 {n : Nat} (hn : n < 2147483648) : ¬ (I n = (-1 : Int32)) := by
  intro h
  have h1 := congrArg Int32.toInt h
  rw [I_nat hn] at h1
  have h2 : (-1 : Int32).toInt = -1 := by decide
  rw [h2] at h1
  omega
theorem m1_I {n : Nat} (hn : n < 2147483648) : ¬ ((-1 : Int32) = I n) := fun h => I_m1 hn h.symm
theorem m1_lt0 : ((-1 : Int32) < 0) = True := by simp
theorem m1_lt {n : Nat} (hn : n < 2147483648) : (-1 : Int32) < I n := by
  rw [Int32.lt_iff_toInt_lt, I_nat hn]
  have h2 : (-1 : Int32).toInt = -1 := by decide
  omega
theorem I_add (n m : Nat) : I n + I m = I (n + m) := (Int32.ofNat_add n m).symm
theorem I_addl (n m : Nat) : I n + (no_index (OfNat.ofNat m) : Int32) = I (n + OfNat.ofNat m) := (Int32.ofNat_add n m).symm
theorem l_addI (n m : Nat) : (no_index (OfNat.ofNat m) : Int32) + I n = I (OfNat.ofNat m + n) := (Int32.ofNat_add m n).symm
theorem I_sub {n m : Nat} (h : m ≤ n) : I n - I m = I (n - m) := (Int32.ofNat_sub n m h).symm
theorem I_subl {n m : Nat} (h : OfNat.ofNat m ≤ n) : I n - (no_index (OfNat.ofNat m) : Int32) = I (n - OfNat.ofNat m) := (Int32.ofNat_sub n m h).symm
theorem I_mul (n m : Nat) : I n * I m = I (n * m) := (Int32.ofNat_mul n m).symm
theorem l_mulI (n m : Nat) : (no_index (OfNat.ofNat m) : Int32) * I n = I (OfNat.ofNat m * n) := (Int32.ofNat_mul m n).symm
theorem I_mull (n m : Nat) : I n * (no_index (OfNat.ofNat m) : Int32) = I (n * OfNat.ofNat m) := (Int32.ofNat_mul n m).symm
theorem I_div {n m : Nat} (hn : n < 2147483648) (hm : m < 2147483648) : I n / I m = I (n / m) := (Int32.ofNat_div hn hm).symm
theorem I_divl {n m : Nat} (hn : n < 2147483648) (hm : (OfNat.ofNat m : Nat) < 2147483648) : I n / (no_index (OfNat.ofNat m) : Int32) = I (n / OfNat.ofNat m) := (Int32.ofNat_div hn hm).symm
theorem I_mod {n m : Nat} (hn : n < 2147483648) (hm : (OfNat.ofNat m : Nat) < 2147483648) : I n - I n / (no_index (OfNat.ofNat m) : Int32) * (no_index (OfNat.ofNat m) : Int32) = I (n % OfNat.ofNat m) := by
  show I n - I n / I m * I m = I (n % m)
  rw [I_div hn (show m < 2147483648 from hm), I_mul, I_sub (Nat.div_mul_le_self n m)]
  congr 1
  have h := Nat.div_add_mod n m
  rw [Nat.mul_comm] at h
  omega
theorem I_md {n m : Nat} : I n - I (n / (no_index (OfNat.ofNat m) : Nat)) * (no_index (OfNat.ofNat m) : Int32) = I (n % OfNat.ofNat m) := by
  show I n - I (n / m) * I m = I (n % m)
  rw [I_mul, I_sub (Nat.div_mul_le_self n m)]
  congr 1
  have h := Nat.div_add_mod n m
  rw [Nat.mul_comm] at h
  omega
theorem I_dec {n : Nat} (h : 1 ≤ n) : I n + (-1 : Int32) = I (n - 1) := by
  have : (-1 : Int32) = - (1 : Int32) := rfl
  rw [this, ← Int32.sub_eq_add_neg]
  exact I_sub h
theorem ix_I {n : Nat} (hn : n < 2147483648) : ix (I n) = n := Int32.toNatClampNeg_ofNat_of_lt hn
theorem inb_I {n L : Nat} (hn : n < 2147483648) : inb (I n) L = decide (n < L) := by
  unfold inb
  rw [show (I n).toNatClampNeg = n from ix_I hn, decide_eq_false (I_neg hn)]
  by_cases h : n < L
  · simp [h, Nat.not_le.mpr h]
  · simp [h, Nat.not_lt.mp h]
theorem inb_of {x : Int32} {L : Nat} (h : inb x L = true) : ∃ n, n < L ∧ x = I n := by
  have h1 := inb_in.mp h
  unfold vp_in at h1
  have h0 : 0 ≤ x := Int32.not_lt.mp (fun q => h1 (Or.inl q))
  exact ⟨x.toNatClampNeg, Nat.lt_of_not_le (fun q => h1 (Or.inr q)), (Int32.ofNat_toNatClampNeg x h0).symm⟩
theorem I_of {x : Int32} (h : ¬ x < 0) : x = I x.toNatClampNeg ∧ x.toNatClampNeg < 2147483648 := ⟨(Int32.ofNat_toNatClampNeg x (Int32.not_lt.mp h)).symm, Int32.toNatClampNeg_lt x⟩
theorem ldI_I {μ : Mem} {a n L t : Nat} (hk : kd a = (t, L)) (h : n < L) (hL : L < 2147483648) : ldI μ a (I n) = some (μ.2.1 a n) := by
  unfold ldI
  rw [hk, inb_I (by omega), if_pos (decide_eq_true h), ix_I (by omega)]
theorem ldL_I {μ : Mem} {a n L t : Nat} (hk : kd a = (t, L)) (h : n < L) (hL : L < 2147483648) : ldL μ a (I n) = some (μ.2.2.1 a n) := by
  unfold ldL
  rw [hk, inb_I (by omega), if_pos (decide_eq_true h), ix_I (by omega)]
/-- a row of longs laid anew -/
def sLC (μ : Mem) (a : Nat) (g : Nat → Int64) : Mem := (μ.1, μ.2.1, (fun b => if b = a then g else μ.2.2.1 b), μ.2.2.2)
theorem sLC_i (μ : Mem) (a : Nat) (g : Nat → Int64) : (sLC μ a g).2.1 = μ.2.1 := rfl
theorem sLC_1 (μ : Mem) (a : Nat) (g : Nat → Int64) : (sLC μ a g).1 = μ.1 := rfl
theorem sLC_r (μ : Mem) (a : Nat) (g : Nat → Int64) : (sLC μ a g).2.2.2 = μ.2.2.2 := rfl
theorem sLC_l (μ : Mem) (a : Nat) (g : Nat → Int64) (b : Nat) : (sLC μ a g).2.2.1 b = if b = a then g else μ.2.2.1 b := rfl
theorem sC_row (μ : Mem) (a : Nat) (g : Nat → Int32) (b : Nat) : (sC μ a g).2.1 b = if b = a then g else μ.2.1 b := by
  funext j
  rw [sC_i]
  split <;> rfl
def up {α : Type} (g : Nat → α) (k : Nat) (x : α) : Nat → α := fun i => if i = k then x else g i
theorem up_e {α : Type} (g : Nat → α) (k : Nat) (x : α) (i : Nat) : up g k x i = if i = k then x else g i := rfl
theorem up_s {α : Type} (g : Nat → α) (k : Nat) (x : α) : up g k x k = x := if_pos rfl
theorem up_n {α : Type} (g : Nat → α) {k i : Nat} (x : α) (h : i ≠ k) : up g k x i = g i := if_neg h
theorem Mem.ext4 {μ ν : Mem} (h1 : μ.1 = ν.1) (h2 : ∀ a j, μ.2.1 a j = ν.2.1 a j) (h3 : ∀ a j, μ.2.2.1 a j = ν.2.2.1 a j) (h4 : μ.2.2.2 = ν.2.2.2) : μ = ν := by
  obtain ⟨a, b, c, d⟩ := μ
  obtain ⟨a', b', c', d'⟩ := ν
  have e2 : b = b' := funext fun x => funext fun y => h2 x y
  have e3 : c = c' := funext fun x => funext fun y => h3 x y
  simp only at h1 h4
  rw [h1, e2, e3, h4]
theorem sI_C (μ : Mem) (a k : Nat) (x : Int32) : sI μ a k x = sC μ a (up (μ.2.1 a) k x) := by
  refine Mem.ext4 rfl ?_ (fun _ _ => rfl) rfl
  intro b j
  rw [sI_i, sC_i]
  by_cases h : b = a
  · subst h; simp [up_e]
  · simp [h]
theorem sL_C (μ : Mem) (a k : Nat) (x : Int64) : sL μ a k x = sLC μ a (up (μ.2.2.1 a) k x) := by
  refine Mem.ext4 rfl (fun _ _ => rfl) ?_ rfl
  intro b j
  rw [sL_l, sLC_l]
  by_cases h : b = a
  · subst h; simp [up_e]
  · simp [h]
theorem sC_C (μ : Mem) (a : Nat) (g g' : Nat → Int32) : sC (sC μ a g) a g' = sC μ a g' := by
  refine Mem.ext4 rfl ?_ (fun _ _ => rfl) rfl
  intro b j
  rw [sC_i, sC_i, sC_i]
  split <;> rfl
theorem sLC_C (μ : Mem) (a : Nat) (g g' : Nat → Int64) : sLC (sLC μ a g) a g' = sLC μ a g' := by
  refine Mem.ext4 rfl (fun _ _ => rfl) ?_ rfl
  intro b j
  rw [sLC_l, sLC_l, sLC_l]
  split <;> rfl
theorem sC_same (μ : Mem) (a : Nat) : sC μ a (μ.2.1 a) = μ := by
  refine Mem.ext4 rfl ?_ (fun _ _ => rfl) rfl
  intro b j
  rw [sC_i]
  split
  · rename_i h; rw [h]
  · rfl
theorem sLC_same (μ : Mem) (a : Nat) : sLC μ a (μ.2.2.1 a) = μ := by
  refine Mem.ext4 rfl (fun _ _ => rfl) ?_ rfl
  intro b j
  rw [sLC_l]
  split
  · rename_i h; rw [h]
  · rfl
theorem sC_comm (μ : Mem) {a b : Nat} (g g' : Nat → Int32) (h : a ≠ b) : sC (sC μ a g) b g' = sC (sC μ b g') a g := by
  refine Mem.ext4 rfl ?_ (fun _ _ => rfl) rfl
  intro c j
  rw [sC_i, sC_i, sC_i, sC_i]
  by_cases h1 : c = a
  · subst h1; simp [h]
  · simp [h1]
theorem Gr.sLC {μ : Mem} (h : Gr μ) (a : Nat) (g : Nat → Int64) : Gr (sLC μ a g) := h.r rfl rfl
theorem stI_I {μ : Mem} {a n L t : Nat} {x : Int32} (hk : kd a = (t, L)) (h : n < L) (hL : L < 2147483648) : stI μ a (I n) x = some (sC μ a (up (μ.2.1 a) n x)) := by
  unfold stI
  rw [hk, inb_I (by omega), if_pos (decide_eq_true h), ix_I (by omega), sI_C]
theorem stL_I {μ : Mem} {a n L t : Nat} {x : Int64} (hk : kd a = (t, L)) (h : n < L) (hL : L < 2147483648) : stL μ a (I n) x = some (sLC μ a (up (μ.2.2.1 a) n x)) := by
  unfold stL
  rw [hk, inb_I (by omega), if_pos (decide_eq_true h), ix_I (by omega), sL_C]
theorem gR_C (μ : Mem) (a : Nat) (g : Nat → Int32) (b f t : Nat) : gR (sC μ a g) b f t = gR μ b f t := rfl
theorem gR_LC (μ : Mem) (a : Nat) (g : Nat → Int64) (b f t : Nat) : gR (sLC μ a g) b f t = gR μ b f t := rfl
/-- a thing that is there, and how it is -/
def Ok {α : Type} (x : Option α) (P : α → Prop) : Prop := ∃ r, x = some r ∧ P r
theorem Ok.b {α β : Type} {x : Option α} {f : α → Option β} {P : α → Prop} {Q : β → Prop} (h : Ok x P) (k : ∀ r, P r → Ok (f r) Q) : Ok (x.bind f) Q := by
  obtain ⟨r, h1, h2⟩ := h
  rw [h1]
  exact k r h2
theorem Ok.m {α : Type} {x : Option α} {P Q : α → Prop} (h : Ok x P) (k : ∀ r, P r → Q r) : Ok x Q := by
  obtain ⟨r, h1, h2⟩ := h
  exact ⟨r, h1, k r h2⟩
theorem Ok.s {α : Type} {r : α} {P : α → Prop} (h : P r) : Ok (some r) P := ⟨r, rfl, h⟩
theorem Ok.e {α : Type} {x : Option α} {r : α} {P : α → Prop} (e : x = some r) (h : P r) : Ok x P := ⟨r, e, h⟩
theorem loop_ok {S R : Type} (F : Nat → S → Option R) (N : Nat) (Inv : Nat → S → Prop) (Q : R → Prop)
    (step : ∀ n j s, j < N → Inv j s → Ok (F (n + 1) s) Q ∨ ∃ s', F (n + 1) s = F n s' ∧ Inv (j + 1) s')
    (last : ∀ n s, Inv N s → Ok (F (n + 1) s) Q) : ∀ (i n j : Nat) (s : S), i + j = N → i < n → Inv j s → Ok (F n s) Q := by
  intro i
  induction i with
  | zero =>
    intro n j s hj hn h
    obtain ⟨n, rfl⟩ : ∃ m, n = m + 1 := ⟨n - 1, by omega⟩
    obtain rfl : j = N := by omega
    exact last n s h
  | succ i ih =>
    intro n j s hj hn h
    obtain ⟨n, rfl⟩ : ∃ m, n = m + 1 := ⟨n - 1, by omega⟩
    rcases step n j s (by omega) h with h1 | ⟨s', e, h1⟩
    · exact h1
    · rw [e]
      exact ih n (j + 1) s' (by omega) (by omega) h1
theorem loop_eq {S R : Type} (F : Nat → S → Option R) (N : Nat) (st : Nat → S) (res : Option R)
    (step : ∀ n j, j < N → F (n + 1) (st j) = F n (st (j + 1)))
    (last : ∀ n, F (n + 1) (st N) = res) : ∀ (i n j : Nat), i + j = N → i < n → F n (st j) = res := by
  intro i
  induction i with
  | zero =>
    intro n j hj hn
    obtain ⟨n, rfl⟩ : ∃ m, n = m + 1 := ⟨n - 1, by omega⟩
    obtain rfl : j = N := by omega
    exact last n
  | succ i ih =>
    intro n j hj hn
    obtain ⟨n, rfl⟩ : ∃ m, n = m + 1 := ⟨n - 1, by omega⟩
    rw [step n j (by omega)]
    exact ih n (j + 1) (by omega) (by omega)
/-- a loop with a measure -/
theorem loop_ms {S R : Type} (F : Nat → S → Option R) (ms : S → Nat) (Inv : S → Prop) (Q : R → Prop)
    (step : ∀ n s, Inv s → Ok (F (n + 1) s) Q ∨ ∃ s', F (n + 1) s = F n s' ∧ Inv s' ∧ ms s' < ms s) : ∀ (n : Nat) (s : S), ms s < n → Inv s → Ok (F n s) Q := by
  intro n
  induction n with
  | zero => intro s h; omega
  | succ n ih =>
    intro s hn h
    rcases step n s h with h1 | ⟨s', e, h1, h2⟩
    · exact h1
    · rw [e]
      exact ih s' (by omega) h1
/-- how many below n -/
def cnt (p : Nat → Bool) : Nat → Nat
  | 0 => 0
  | n + 1 => cnt p n + if p n then 1 else 0
theorem cnt_le (p : Nat → Bool) (n : Nat) : cnt p n ≤ n := by
  induction n with
  | zero => exact Nat.le_refl 0
  | succ n ih => unfold cnt; split <;> omega
theorem cnt_congr {p q : Nat → Bool} {n : Nat} (h : ∀ x, x < n → p x = q x) : cnt p n = cnt q n := by
  induction n with
  | zero => rfl
  | succ n ih => unfold cnt; rw [ih (fun x hx => h x (by omega)), h n (by omega)]
theorem cnt_up {p q : Nat → Bool} {n y : Nat} (hy : y < n) (h1 : p y = false) (h2 : q y = true) (h : ∀ x, x < n → x ≠ y → p x = q x) : cnt q n = cnt p n + 1 := by
  induction n with
  | zero => omega
  | succ n ih =>
    unfold cnt
    by_cases e : y = n
    · subst e
      rw [cnt_congr (fun x hx => (h x (by omega) (by omega)).symm), h1, h2]
      simp
    · rw [ih (by omega) (fun x hx hn => h x (by omega) hn), h n (by omega) (fun q => e q.symm)]
      omega
theorem cnt_mono {p q : Nat → Bool} {n : Nat} (h : ∀ x, x < n → p x = true → q x = true) : cnt p n ≤ cnt q n := by
  induction n with
  | zero => exact Nat.le_refl 0
  | succ n ih =>
    unfold cnt
    have h1 := ih (fun x hx => h x (by omega))
    by_cases hp : p n = true
    · rw [hp, h n (by omega) hp]; simp; exact h1
    · split
      · contradiction
      · omega
theorem cnt_lt {p q : Nat → Bool} {n y : Nat} (hy : y < n) (h1 : p y = false) (h2 : q y = true) (h : ∀ x, x < n → p x = true → q x = true) : cnt p n < cnt q n := by
  have h3 : cnt (fun x => p x || decide (x = y)) n = cnt p n + 1 := cnt_up hy h1 (by simp) (fun x _ hx => by simp [hx])
  have h4 : cnt (fun x => p x || decide (x = y)) n ≤ cnt q n := cnt_mono (fun x hx hp => by
    rcases Bool.or_eq_true _ _ ▸ hp with hp | hp
    · exact h x hx hp
    · rw [of_decide_eq_true hp]; exact h2)
  omega
theorem cnt_0 {p : Nat → Bool} {n : Nat} (h : ∀ x, x < n → p x = false) : cnt p n = 0 := by
  induction n with
  | zero => rfl
  | succ n ih => unfold cnt; rw [ih (fun x hx => h x (by omega)), h n (by omega)]; rfl

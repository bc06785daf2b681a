/-! EXPRESSIONS: items (kind, number): 0 a number, 1 a value, 2 not, 3 an operator; by a stack (its places, how high) -/
theorem bs {α β : Type} (a : α) (f : α → Option β) : (some a).bind f = f a := Eq.trans (Option.bind_some a f) (Eq.refl _)
theorem gC (μ : Mem) (a : Nat) (g : Nat → Int32) (b f t : Nat) : gR (sC μ a g) b f t = gR μ b f t := Eq.trans (gR_C μ a g b f t) (Eq.refl _)
theorem gLC (μ : Mem) (a : Nat) (g : Nat → Int64) (b f t : Nat) : gR (sLC μ a g) b f t = gR μ b f t := Eq.trans (gR_LC μ a g b f t) (Eq.refl _)
abbrev Itm : Type := Nat × Nat
def jn (o : Nat) (a b : Int32) : Int32 := match o with
  | 0 => if a = 0 then (if b = 0 then 0 else 1) else 1
  | 1 => if a = 0 then 0 else (if b = 0 then 0 else 1)
  | 2 => if a < b then 1 else 0
  | 3 => if a = b then 1 else 0
  | 4 => a + b
  | 5 => a - b
  | 6 => a * b
  | _ => if b = 0 then 0 else a / b
def ev1 (vals : Nat → Int32) (t : Itm) (s : (Nat → Int32) × Nat) : (Nat → Int32) × Nat := match t.1 with
  | 0 => (up s.1 s.2 (I t.2), s.2 + 1)
  | 1 => (up s.1 s.2 (vals t.2), s.2 + 1)
  | 2 => (up s.1 (s.2 - 1) (if s.1 (s.2 - 1) = 0 then 1 else 0), s.2)
  | _ => (up s.1 (s.2 - 2) (jn t.2 (s.1 (s.2 - 2)) (s.1 (s.2 - 1))), s.2 - 1)
def evS (vals : Nat → Int32) : List Itm → (Nat → Int32) × Nat → (Nat → Int32) × Nat
  | [], s => s
  | t :: l, s => evS vals l (ev1 vals t s)
theorem evS_c (vals : Nat → Int32) (t : Itm) (l : List Itm) (s : (Nat → Int32) × Nat) : evS vals (t :: l) s = evS vals l (ev1 vals t s) := rfl
theorem ev1_0 (vals : Nat → Int32) (v : Nat) (g : Nat → Int32) (h : Nat) : ev1 vals (0, v) (g, h) = (up g h (I v), h + 1) := rfl
theorem ev1_1 (vals : Nat → Int32) (v : Nat) (g : Nat → Int32) (h : Nat) : ev1 vals (1, v) (g, h) = (up g h (vals v), h + 1) := rfl
theorem ev1_2 (vals : Nat → Int32) (v : Nat) (g : Nat → Int32) (h : Nat) : ev1 vals (2, v) (g, h) = (up g (h - 1) (if g (h - 1) = 0 then 1 else 0), h) := rfl
theorem ev1_3 (vals : Nat → Int32) (v : Nat) (g : Nat → Int32) (h : Nat) : ev1 vals (3, v) (g, h) = (up g (h - 2) (jn v (g (h - 2)) (g (h - 1))), h - 1) := rfl
def hg (t : Itm) (h : Nat) : Nat := match t.1 with
  | 0 => h + 1
  | 1 => h + 1
  | 2 => h
  | _ => h - 1
def hok (t : Itm) (h : Nat) : Prop := match t.1 with
  | 0 => h < 64
  | 1 => h < 64
  | 2 => 1 ≤ h
  | _ => 2 ≤ h
def Hok : List Itm → Nat → Nat → Prop
  | [], h, h' => h = h'
  | t :: l, h, h' => hok t h ∧ Hok l (hg t h) h'
def iok (nv : Nat) (t : Itm) : Prop := (t.1 = 0 ∧ t.2 < 10000) ∨ (t.1 = 1 ∧ t.2 < nv) ∨ t.1 = 2 ∨ (t.1 = 3 ∧ t.2 < 8)
/-- as the class has it -/
def ecl (t : Itm) : Int32 := match t.1 with
  | 0 => I t.2
  | 1 => -1 - I t.2
  | 2 => -10
  | _ => -11 - I t.2
noncomputable def evV (vals : Nat → Int32) (l : List Itm) : Int32 := (evS vals l (fun _ => 0, 0)).1 0
theorem ev1_h {vals : Nat → Int32} {t : Itm} {s : (Nat → Int32) × Nat} {nv : Nat} (h : iok nv t) : (ev1 vals t s).2 = hg t s.2 := by
  obtain ⟨k, v⟩ := t
  rcases h with ⟨h, _⟩ | ⟨h, _⟩ | h | ⟨h, _⟩ <;> (simp only at h; subst h; rfl)
theorem evS_in {vals : Nat → Int32} {nv h' : Nat} : ∀ (l : List Itm) (h : Nat) (g g' : Nat → Int32), (∀ t ∈ l, iok nv t) → Hok l h h' → (∀ i, i < h → g i = g' i) → ∀ i, i < h' → (evS vals l (g, h)).1 i = (evS vals l (g', h)).1 i := by
  intro l
  induction l with
  | nil =>
    intro h g g' _ hh he i hi
    have hh' : h = h' := hh
    exact he i (by omega)
  | cons t l ih =>
    intro h g g' ho hh he i hi
    obtain ⟨h1, h2⟩ := hh
    have ht := ho t (List.mem_cons_self ..)
    show (evS vals l (ev1 vals t (g, h))).1 i = (evS vals l (ev1 vals t (g', h))).1 i
    have e1 : ev1 vals t (g, h) = ((ev1 vals t (g, h)).1, hg t h) := Prod.ext rfl (ev1_h ht)
    have e2 : ev1 vals t (g', h) = ((ev1 vals t (g', h)).1, hg t h) := Prod.ext rfl (ev1_h ht)
    rw [e1, e2]
    refine ih (hg t h) _ _ (fun t' ht' => ho t' (List.mem_cons_of_mem _ ht')) h2 ?_ i hi
    intro j hj
    obtain ⟨k, v⟩ := t
    rcases ht with ⟨q, _⟩ | ⟨q, _⟩ | q | ⟨q, _⟩
    · simp only at q; subst q
      have hj' : j < h + 1 := hj
      show up g h (I v) j = up g' h (I v) j
      unfold up; split
      · rfl
      · exact he j (by omega)
    · simp only at q; subst q
      have hj' : j < h + 1 := hj
      show up g h (vals v) j = up g' h (vals v) j
      unfold up; split
      · rfl
      · exact he j (by omega)
    · simp only at q; subst q
      have hj' : j < h := hj
      have h1' : 1 ≤ h := h1
      show up g (h - 1) (if g (h - 1) = 0 then 1 else 0) j = up g' (h - 1) (if g' (h - 1) = 0 then 1 else 0) j
      rw [he (h - 1) (by omega)]
      unfold up; split
      · rfl
      · exact he j (by omega)
    · simp only at q; subst q
      have hj' : j < h - 1 := hj
      have h1' : 2 ≤ h := h1
      show up g (h - 2) (jn v (g (h - 2)) (g (h - 1))) j = up g' (h - 2) (jn v (g' (h - 2)) (g' (h - 1))) j
      rw [he (h - 1) (by omega), he (h - 2) (by omega)]
      unfold up; split
      · rfl
      · exact he j (by omega)
theorem evS_V {vals : Nat → Int32} {nv : Nat} {l : List Itm} (g : Nat → Int32) (h1 : ∀ t ∈ l, iok nv t) (h2 : Hok l 0 1) : (evS vals l (g, 0)).1 0 = evV vals l :=
  evS_in l 0 g (fun _ => 0) h1 h2 (fun i hi => absurd hi (Nat.not_lt_zero i)) 0 (by omega)
theorem evV_vals {vals vals' : Nat → Int32} {nv : Nat} {l : List Itm} (h1 : ∀ t ∈ l, iok nv t) (h : ∀ w, w < nv → vals w = vals' w) : evV vals l = evV vals' l := by
  unfold evV
  have : ∀ (l : List Itm) (s : (Nat → Int32) × Nat), (∀ t ∈ l, iok nv t) → evS vals l s = evS vals' l s := by
    intro l
    induction l with
    | nil => intro s _; rfl
    | cons t l ih =>
      intro s ho
      show evS vals l (ev1 vals t s) = evS vals' l (ev1 vals' t s)
      have ht := ho t (List.mem_cons_self ..)
      have e : ev1 vals t s = ev1 vals' t s := by
        obtain ⟨k, v⟩ := t
        rcases ht with ⟨q, _⟩ | ⟨q, hv⟩ | q | ⟨q, _⟩ <;> simp only at q <;> subst q
        · rfl
        · show (up s.1 s.2 (vals v), s.2 + 1) = (up s.1 s.2 (vals' v), s.2 + 1)
          rw [h v hv]
        · rfl
        · rfl
      rw [e]
      exact ih _ (fun t' ht' => ho t' (List.mem_cons_of_mem _ ht'))
  rw [this l _ h1]
theorem joined_ok {o : Nat} (ho : o < 8) (a b : Int32) : fX7_joined (-11 - I o) a b = some (jn o a b) := by
  have h8 : o = 0 ∨ o = 1 ∨ o = 2 ∨ o = 3 ∨ o = 4 ∨ o = 5 ∨ o = 6 ∨ o = 7 := by omega
  unfold fX7_joined
  rcases h8 with rfl | rfl | rfl | rfl | rfl | rfl | rfl | rfl
  · rw [if_neg (by decide), if_neg (by decide), if_neg (by decide), if_neg (by decide), if_neg (by decide), if_neg (by decide), if_pos (by decide)]
    unfold jn
    split
    · split <;> rfl
    · rfl
  · rw [if_neg (by decide), if_neg (by decide), if_neg (by decide), if_neg (by decide), if_neg (by decide), if_pos (by decide)]
    unfold jn
    split
    · rfl
    · split <;> rfl
  · rw [if_neg (by decide), if_neg (by decide), if_neg (by decide), if_neg (by decide), if_pos (by decide)]
    unfold jn
    split <;> rfl
  · rw [if_neg (by decide), if_neg (by decide), if_neg (by decide), if_pos (by decide)]
    unfold jn
    split <;> rfl
  · rw [if_neg (by decide), if_neg (by decide), if_pos (by decide)]
    rfl
  · rw [if_neg (by decide), if_pos (by decide)]
    rfl
  · rw [if_pos (by decide)]
    rfl
  · rw [if_neg (by decide), if_neg (by decide), if_neg (by decide), if_neg (by decide), if_neg (by decide), if_neg (by decide), if_neg (by decide)]
    unfold jn dvI
    split
    · rfl
    · rfl
/-- the reference's number of an operator -/
def om (o : Nat) : Nat := [5, 4, 6, 7, 8, 9, 10, 11].getD o 0
theorem works_ok {o : Nat} (ho : o < 8) (a b : Int32) : fX11_works (I (om o)) a b = some (jn o a b) := by
  have h8 : o = 0 ∨ o = 1 ∨ o = 2 ∨ o = 3 ∨ o = 4 ∨ o = 5 ∨ o = 6 ∨ o = 7 := by omega
  unfold fX11_works
  rcases h8 with rfl | rfl | rfl | rfl | rfl | rfl | rfl | rfl
  · rw [if_neg (by decide), if_pos (by decide)]
    unfold jn
    split
    · split <;> rfl
    · rfl
  · rw [if_pos (by decide)]
    unfold jn
    split
    · rfl
    · split <;> rfl
  · rw [if_neg (by decide), if_neg (by decide), if_pos (by decide)]
    unfold jn
    split <;> rfl
  · rw [if_neg (by decide), if_neg (by decide), if_neg (by decide), if_pos (by decide)]
    unfold jn
    split <;> rfl
  · rw [if_neg (by decide), if_neg (by decide), if_neg (by decide), if_neg (by decide), if_pos (by decide)]
    rfl
  · rw [if_neg (by decide), if_neg (by decide), if_neg (by decide), if_neg (by decide), if_neg (by decide), if_pos (by decide)]
    rfl
  · rw [if_neg (by decide), if_neg (by decide), if_neg (by decide), if_neg (by decide), if_neg (by decide), if_neg (by decide), if_pos (by decide)]
    rfl
  · rw [if_neg (by decide), if_neg (by decide), if_neg (by decide), if_neg (by decide), if_neg (by decide), if_neg (by decide), if_neg (by decide)]
    unfold jn dvI
    split
    · rfl
    · rfl
/-- a row of items as the class has it -/
def Rit (c : Row) : Nat → List Itm → Prop
  | _, [] => True
  | i, t :: l => c i = ecl t ∧ Rit c (i + 1) l
theorem val_w : ∀ w : Fin 6, ((-10 : Int32) < -1 - I w.1) ∧ ((-1 : Int32) - I w.1 < 0) ∧ (-1 : Int32) - (-1 - I w.1) = I w.1 := by decide +kernel
theorem op_w : ∀ o : Fin 8, ¬ ((-10 : Int32) < -11 - I o.1) ∧ ¬ ((-11 : Int32) - I o.1 = -10) := by decide +kernel
theorem m10_lt {n : Nat} (hn : n < 2147483648) : (-10 : Int32) < I n := by
  rw [Int32.lt_iff_toInt_lt, I_nat hn]
  have h2 : (-10 : Int32).toInt = -10 := by decide
  omega
theorem sC_s (μ : Mem) (a : Nat) (g : Nat → Int32) : (sC μ a g).2.1 a = g := by rw [sC_row, if_pos rfl]
theorem sC_n (μ : Mem) {a b : Nat} (g : Nat → Int32) (h : b ≠ a) : (sC μ a g).2.1 b = μ.2.1 b := by rw [sC_row, if_neg h]
/-- a code as the reference has it, from k on -/
def RCd (c : Row) (vm : Nat → Nat) : Nat → List Itm → Prop
  | k, [] => k < 1400 ∧ c k = 0
  | k, t :: l => match t.1 with
    | 0 => k + 1 < 1400 ∧ c k = 1 ∧ c (k + 1) = I t.2 ∧ RCd c vm (k + 2) l
    | 1 => k + 1 < 1400 ∧ c k = 2 ∧ c (k + 1) = I (vm t.2) ∧ RCd c vm (k + 2) l
    | 2 => k < 1400 ∧ c k = 3 ∧ RCd c vm (k + 1) l
    | _ => k < 1400 ∧ c k = I (om t.2) ∧ RCd c vm (k + 1) l
theorem om_w : ∀ o : Fin 8, ¬ (I (om o.1) = 0) ∧ ¬ (I (om o.1) = 1) ∧ ¬ (I (om o.1) = 2) ∧ ¬ (I (om o.1) = 3) := by decide +kernel

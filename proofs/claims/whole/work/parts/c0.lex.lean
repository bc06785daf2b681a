/-! THE TEXT: its tokens -/
def isBl (b : Nat) : Bool := decide (b = 32) || decide (b = 10)
def isLe (b : Nat) : Bool := decide (97 ≤ b) && decide (b ≤ 122)
def isDi (b : Nat) : Bool := decide (48 ≤ b) && decide (b ≤ 57)
def isSg (b : Nat) : Bool := decide (b = 59 ∨ b = 40 ∨ b = 41 ∨ b = 43 ∨ b = 45 ∨ b = 42 ∨ b = 47 ∨ b = 60 ∨ b = 61)
def scn (p : Nat → Bool) (n : Nat) : Nat → Nat → Nat
  | 0, i => i
  | f + 1, i => if i < n ∧ p i = true then scn p n f (i + 1) else i
def sc (p : Nat → Bool) (n i : Nat) : Nat := scn p n (n - i) i
theorem sc_y {p : Nat → Bool} {n i : Nat} (h : i < n) (hp : p i = true) : sc p n i = sc p n (i + 1) := by
  unfold sc
  obtain ⟨m, hm⟩ : ∃ m, n - i = m + 1 := ⟨n - i - 1, by omega⟩
  rw [hm, scn, if_pos ⟨h, hp⟩, show n - (i + 1) = m by omega]
theorem sc_x {p : Nat → Bool} {n i : Nat} (h : ¬ (i < n ∧ p i = true)) : sc p n i = i := by
  unfold sc
  cases hm : n - i with
  | zero => rfl
  | succ m => rw [scn, if_neg h]
theorem sc_ind {p : Nat → Bool} {n : Nat} {Q : Nat → Nat → Prop} (h1 : ∀ i, ¬ (i < n ∧ p i = true) → Q i i) (h2 : ∀ i e, i < n → p i = true → Q (i + 1) e → Q i e) : ∀ i, Q i (sc p n i) := by
  have key : ∀ f i, n - i ≤ f → Q i (sc p n i) := by
    intro f
    induction f with
    | zero =>
      intro i hi
      rw [sc_x (by omega)]
      exact h1 i (by omega)
    | succ f ih =>
      intro i hi
      by_cases h : i < n ∧ p i = true
      · rw [sc_y h.1 h.2]
        exact h2 i _ h.1 h.2 (ih (i + 1) (by omega))
      · rw [sc_x h]
        exact h1 i h
  exact fun i => key _ i (Nat.le_refl _)
theorem sc_ge (p : Nat → Bool) (n i : Nat) : i ≤ sc p n i := sc_ind (p := p) (n := n) (Q := fun i e => i ≤ e) (fun i _ => Nat.le_refl i) (fun i e _ _ h => by omega) i
theorem sc_le {p : Nat → Bool} {n i : Nat} (h : i ≤ n) : sc p n i ≤ n := sc_ind (p := p) (n := n) (Q := fun i e => i ≤ n → e ≤ n) (fun i _ h => h) (fun i e h1 _ h h2 => h (by omega)) i h
theorem sc_end (p : Nat → Bool) (n i : Nat) : ¬ (sc p n i < n ∧ p (sc p n i) = true) := sc_ind (p := p) (n := n) (Q := fun _ e => ¬ (e < n ∧ p e = true)) (fun i h => h) (fun i e _ _ h => h) i
theorem sc_mid {p : Nat → Bool} {n i : Nat} : ∀ j, i ≤ j → j < sc p n i → j < n ∧ p j = true := sc_ind (p := p) (n := n) (Q := fun i e => ∀ j, i ≤ j → j < e → j < n ∧ p j = true) (fun i _ j h1 h2 => by omega) (fun i e h1 h2 h j h3 h4 => by
  by_cases q : j = i
  · subst q; exact ⟨h1, h2⟩
  · exact h j (by omega) h4) i
def tkQ (B : Nat → Nat) (n i : Nat) : Nat := sc (fun i => isBl (B i)) n i
def tkE (B : Nat → Nat) (n q : Nat) : Nat := if n ≤ q then q else if isLe (B q) = true then sc (fun i => isLe (B i)) n q else if isDi (B q) = true then sc (fun i => isDi (B i)) n q else q + 1
/-- end, word, number, sign, none -/
def tkS (B : Nat → Nat) (n q : Nat) : Nat := if n ≤ q then 0 else if isLe (B q) = true then 1 else if isDi (B q) = true then 2 else if isSg (B q) = true then 3 else 4
def dv (B : Nat → Nat) (q : Nat) : Nat → Nat
  | 0 => 0
  | j + 1 => 10 * dv B q j + (B (q + j) - 48)
def tkV (B : Nat → Nat) (n q : Nat) : Nat := dv B q (min 4 (tkE B n q - q))
def kdI (B : Nat → Nat) (n q : Nat) : Int32 := if tkS B n q = 0 then 259 else if tkS B n q = 1 then 256 else if tkS B n q = 2 then 257 else if tkS B n q = 3 then I (B q) else 258
theorem is_le : ∀ b : Fin 256, fX6_isLetter (I b.1) = (if isLe b.1 = true then 1 else 0) ∧ fX6_isDigit (I b.1) = (if isDi b.1 = true then 1 else 0) ∧ fX6_isBlank (I b.1) = (if isBl b.1 = true then 1 else 0) ∧ fX11_isLetter (I b.1) = (if isLe b.1 = true then 1 else 0) ∧ fX11_isDigit (I b.1) = (if isDi b.1 = true then 1 else 0) := by decide +kernel
theorem iof_mem (μ : Mem) : ∀ n v0 v3 v4 v5, fJ1_indexOfChar_4cfef_7 μ n v0 v3 v4 v5 = fJ1_indexOfChar_4cfef_7 mem0 n v0 v3 v4 v5 := by
  intro n
  induction n with
  | zero => intros; rfl
  | succ n ih => intros; simp only [fJ1_indexOfChar_4cfef_7, ih]
theorem isSign_mem (v : Int32) (μ : Mem) : fX6_isSign v μ = fX6_isSign v mem0 := by
  unfold fX6_isSign fJ0_indexOf_0f7a4 fJ0_indexOf_7cf53 fJ1_indexOf_4cfef fJ1_indexOfChar_4cfef
  simp only [iof_mem μ]
theorem is_sg0 : ∀ b : Fin 256, fX6_isSign (I b.1) mem0 = some (if isSg b.1 = true then 1 else 0) := by decide +kernel
theorem isSign_C {b : Nat} (hb : b < 256) (μ : Mem) : fX6_isSign (I b) μ = some (if isSg b = true then 1 else 0) := by
  rw [isSign_mem]; exact is_sg0 ⟨b, hb⟩
section Lx
variable {B : Nat → Nat} {n : Nat}
theorem tkE_le {q : Nat} (h : q ≤ n) : tkE B n q ≤ n := by
  unfold tkE
  by_cases h1 : n ≤ q
  · rw [if_pos h1]; exact h
  · rw [if_neg h1]
    split
    · exact sc_le h
    · split
      · exact sc_le h
      · omega
theorem tkE_gt {q : Nat} (h : tkS B n q ≠ 0) : q < tkE B n q ∧ q < n := by
  unfold tkS at h
  by_cases h1 : n ≤ q
  · rw [if_pos h1] at h; exact absurd rfl h
  · refine ⟨?_, by omega⟩
    unfold tkE
    rw [if_neg h1]
    split
    · rename_i h2
      rw [sc_y (p := fun i => isLe (B i)) (by omega) h2]
      have := sc_ge (fun i => isLe (B i)) n (q + 1)
      omega
    · split
      · rename_i h2
        rw [sc_y (p := fun i => isDi (B i)) (by omega) h2]
        have := sc_ge (fun i => isDi (B i)) n (q + 1)
        omega
      · omega
theorem dv_lt (hB : ∀ i, i < n → B i < 256) {q : Nat} : ∀ j, (∀ i, i < j → isDi (B (q + i)) = true) → dv B q j < 10 ^ j := by
  intro j
  induction j with
  | zero => intro _; exact Nat.one_pos
  | succ j ih =>
    intro h
    have h1 := ih (fun i hi => h i (by omega))
    have h2 := h j (by omega)
    unfold isDi at h2
    simp at h2
    unfold dv
    rw [Nat.pow_succ]
    omega
theorem tkV_lt (hB : ∀ i, i < n → B i < 256) {q : Nat} (h : tkS B n q = 2) : tkV B n q < 10000 := by
  have h0 := tkE_gt (B := B) (n := n) (q := q) (by omega)
  unfold tkV
  have hd : ∀ i, i < tkE B n q - q → isDi (B (q + i)) = true := by
    intro i hi
    unfold tkS at h
    unfold tkE at hi
    rw [if_neg (by omega)] at h hi
    by_cases h1 : isLe (B q) = true
    · rw [if_pos h1] at h; omega
    · rw [if_neg h1] at h hi
      by_cases h2 : isDi (B q) = true
      · rw [if_pos h2] at hi
        exact (sc_mid (p := fun i => isDi (B i)) (n := n) (i := q) (q + i) (by omega) (by omega)).2
      · rw [if_neg h2] at h
        split at h <;> omega
  have h1 := dv_lt hB (q := q) (min 4 (tkE B n q - q)) (fun i hi => hd i (by omega))
  have h2 : 10 ^ (min 4 (tkE B n q - q)) ≤ 10 ^ 4 := Nat.pow_le_pow_right (by decide) (Nat.min_le_left _ _)
  omega
/-! the class's reader -/
def TX (B : Nat → Nat) (n : Nat) (μ : Mem) : Prop := gR μ 31 2 0 = some 1 ∧ ∀ i, i < n → μ.2.1 1 i = I (B i)
theorem TX.c {μ : Mem} (h : TX B n μ) (g : Row) : TX B n (sC μ 31 g) := ⟨by rw [gC]; exact h.1, fun i hi => by rw [sC_n _ _ (by decide)]; exact h.2 i hi⟩
theorem TX.ld {μ : Mem} (h : TX B n μ) (hn : n ≤ 700) {i : Nat} (hi : i < n) : ldI μ 1 (I i) = some (I (B i)) := by rw [ld_1 (by omega), h.2 i hi]
theorem c31 (μ : Mem) (g : Row) (f : Nat) (x : Int32) : sI (sC μ 31 g) 31 f x = sC μ 31 (up g f x) := by rw [sI_C, sC_s, sC_C]
theorem rw7 (hn : n ≤ 700) (hB : ∀ i, i < n → B i < 256) {μ : Mem} (hT : TX B n μ) : ∀ f e m g, n - e ≤ f → f < m → e ≤ n → g 3 = I n → g 5 = I e → fX6_readWord_7 m 31 (sC μ 31 g) = some (sC μ 31 (up g 5 (I (sc (fun i => isLe (B i)) n e)))) := by
  intro f
  induction f with
  | zero =>
    intro e m g h1 h2 h3 h4 h5
    obtain ⟨m, rfl⟩ : ∃ k, m = k + 1 := ⟨m - 1, by omega⟩
    rw [fX6_readWord_7, sC_s, h4, h5, if_neg (by rw [I_lt (by omega) (by omega)]; omega), sc_x (by omega), ← h5, up_id]
  | succ f ih =>
    intro e m g h1 h2 h3 h4 h5
    obtain ⟨m, rfl⟩ : ∃ k, m = k + 1 := ⟨m - 1, by omega⟩
    by_cases he : e < n
    · rw [fX6_readWord_7, sC_s, h4, h5, if_pos (by rw [I_lt (by omega) (by omega)]; exact he), (hT.c g).1, bs, (hT.c g).ld hn he, bs, (is_le ⟨B e, hB e he⟩).1]
      by_cases hl : isLe (B e) = true
      · rw [if_pos hl, if_neg (by decide), bs, c31, I_addl, ih (e + 1) m _ (by omega) (by omega) (by omega) (by rw [up_n _ _ (by decide)]; exact h4) (up_s _ _ _), up_up, sc_y (p := fun i => isLe (B i)) he hl]
      · rw [if_neg hl, if_pos rfl, sc_x (p := fun i => isLe (B i)) (fun q => hl q.2), ← h5, up_id]
    · rw [fX6_readWord_7, sC_s, h4, h5, if_neg (by rw [I_lt (by omega) (by omega)]; exact he), sc_x (fun q => he q.1), ← h5, up_id]
theorem rn12 (hn : n ≤ 700) (hB : ∀ i, i < n → B i < 256) {μ : Mem} (hT : TX B n μ) {q : Nat} : ∀ f e m g, n - e ≤ f → f < m → e ≤ n → q ≤ e → g 3 = I n → g 4 = I q → g 5 = I e → g 7 = I (dv B q (min 4 (e - q))) → ∃ g', fX6_readNumber_12 m 31 (sC μ 31 g) = some (sC μ 31 g') ∧ g' 5 = I (sc (fun i => isDi (B i)) n e) ∧ g' 7 = I (dv B q (min 4 (sc (fun i => isDi (B i)) n e - q))) ∧ ∀ k, k ≠ 5 → k ≠ 7 → g' k = g k := by
  intro f
  induction f with
  | zero =>
    intro e m g h1 h2 h3 hq h4 h6 h5 h7
    obtain ⟨m, rfl⟩ : ∃ k, m = k + 1 := ⟨m - 1, by omega⟩
    rw [fX6_readNumber_12, sC_s, h4, h5, if_neg (by rw [I_lt (by omega) (by omega)]; omega), sc_x (by omega)]
    exact ⟨g, rfl, h5, h7, fun _ _ _ => rfl⟩
  | succ f ih =>
    intro e m g h1 h2 h3 hq h4 h6 h5 h7
    obtain ⟨m, rfl⟩ : ∃ k, m = k + 1 := ⟨m - 1, by omega⟩
    by_cases he : e < n
    · rw [fX6_readNumber_12, sC_s, h4, h5, if_pos (by rw [I_lt (by omega) (by omega)]; exact he), (hT.c g).1, bs, (hT.c g).ld hn he, bs, (is_le ⟨B e, hB e he⟩).2.1]
      by_cases hl : isDi (B e) = true
      · have hd : 48 ≤ B e := by unfold isDi at hl; simp at hl; exact hl.1
        rw [if_pos hl, if_neg (by decide), h6, I_sub hq]
        by_cases h4' : e - q < 4
        · have hv : (10 : Int32) * I (dv B q (min 4 (e - q))) + I (B e) - 48 = I (dv B q (min 4 (e + 1 - q))) := by
            rw [l_mulI, I_add, I_subl (by show 48 ≤ 10 * _ + B e; omega)]
            rw [show min 4 (e - q) = e - q by omega, show min 4 (e + 1 - q) = (e - q) + 1 by omega, dv, show q + (e - q) = e by omega]
            congr 1
            show 10 * dv B q (e - q) + B e - 48 = _
            omega
          rw [if_pos (by rw [I_ltl (by omega) (by decide)]; exact h4'), bs, (hT.c g).ld hn he, bs, bs, bs, c31, c31, h7, hv, sC_s, up_n _ _ (by decide), h5, I_addl]
          obtain ⟨g', r1, r2, r3, r4⟩ := ih (e + 1) m (up (up g 7 (I (dv B q (min 4 (e + 1 - q))))) 5 (I (e + OfNat.ofNat 1))) (by omega) (by omega) (by omega) (by omega) (by rw [up_n _ _ (by decide), up_n _ _ (by decide)]; exact h4) (by rw [up_n _ _ (by decide), up_n _ _ (by decide)]; exact h6) (up_s _ _ _) (by rw [up_n _ _ (by decide), up_s])
          rw [sc_y (p := fun i => isDi (B i)) he hl]
          exact ⟨g', r1, r2, r3, fun k k5 k7 => by rw [r4 k k5 k7, up_n _ _ k5, up_n _ _ k7]⟩
        · rw [if_neg (by rw [I_ltl (by omega) (by decide)]; exact h4'), bs, bs, c31, c31, up_id, sC_s, h5, I_addl]
          obtain ⟨g', r1, r2, r3, r4⟩ := ih (e + 1) m (up g 5 (I (e + OfNat.ofNat 1))) (by omega) (by omega) (by omega) (by omega) (by rw [up_n _ _ (by decide)]; exact h4) (by rw [up_n _ _ (by decide)]; exact h6) (up_s _ _ _) (by rw [up_n _ _ (by decide), h7]; congr 2; omega)
          rw [sc_y (p := fun i => isDi (B i)) he hl]
          exact ⟨g', r1, r2, r3, fun k k5 k7 => by rw [r4 k k5 k7, up_n _ _ k5]⟩
      · rw [if_neg hl, if_pos rfl, sc_x (p := fun i => isDi (B i)) (fun q => hl q.2)]
        exact ⟨g, rfl, h5, h7, fun _ _ _ => rfl⟩
    · rw [fX6_readNumber_12, sC_s, h4, h5, if_neg (by rw [I_lt (by omega) (by omega)]; exact he), sc_x (fun q => he q.1)]
      exact ⟨g, rfl, h5, h7, fun _ _ _ => rfl⟩
/-- the token at a place, as the class has it -/
def CTg (B : Nat → Nat) (n q : Nat) (g : Row) : Prop := g 3 = I n ∧ g 4 = I q ∧ g 5 = I (tkE B n q) ∧ g 6 = kdI B n q ∧ (tkS B n q = 2 → g 7 = I (tkV B n q))
def advT (v0 : Nat) (μ : Mem) : Option Mem :=
  (some (sI μ v0 5 (μ.2.1 v0 4))).bind fun μ9 =>
        if (μ9.2.1 v0 4) < (μ9.2.1 v0 3) then
          (gR μ9 v0 2 0).bind fun a12 =>
          (ldI μ9 a12 (μ9.2.1 v0 4)).bind fun x15 =>
          if (fX6_isLetter x15) = 0 then
            (gR μ9 v0 2 0).bind fun a20 =>
            (ldI μ9 a20 (μ9.2.1 v0 4)).bind fun x23 =>
            if (fX6_isDigit x23) = 0 then
              (gR μ9 v0 2 0).bind fun a28 =>
              (ldI μ9 a28 (μ9.2.1 v0 4)).bind fun x31 =>
              (fX6_isSign x31 μ9).bind fun r34 =>
              if r34 = 0 then
                (some (sI μ9 v0 6 (258 : Int32))).bind fun μ37 =>
                (some (sI μ37 v0 5 ((μ37.2.1 v0 4) + (1 : Int32)))).bind fun μ40 =>
                some μ40
              else
                (gR μ9 v0 2 0).bind fun a43 =>
                (ldI μ9 a43 (μ9.2.1 v0 4)).bind fun x46 =>
                (some (sI μ9 v0 6 x46)).bind fun μ48 =>
                (some (sI μ48 v0 5 ((μ48.2.1 v0 4) + (1 : Int32)))).bind fun μ51 =>
                some μ51
            else
              (fX6_readNumber v0 μ9).bind fun μ55 =>
              some μ55
          else
            (fX6_readWord v0 μ9).bind fun μ59 =>
            some μ59
        else
          (some (sI μ9 v0 6 (259 : Int32))).bind fun μ62 =>
          some μ62
theorem adv8_e (m : Nat) (μ : Mem) : fX6_advance_8 (m + 1) 31 μ = if (μ.2.1 31 4) < (μ.2.1 31 3) then (gR μ 31 2 0).bind fun a1 => (ldI μ a1 (μ.2.1 31 4)).bind fun x4 => if (fX6_isBlank x4) = 0 then advT 31 μ else (some (sI μ 31 4 ((μ.2.1 31 4) + (1 : Int32)))).bind fun μ65 => (fX6_advance_8 m) 31 μ65 else advT 31 μ := rfl
theorem adv8 (hn : n ≤ 700) (hB : ∀ i, i < n → B i < 256) {μ : Mem} (hT : TX B n μ) : ∀ f i m g, n - i ≤ f → f < m → i ≤ n → g 3 = I n → g 4 = I i → fX6_advance_8 m 31 (sC μ 31 g) = advT 31 (sC μ 31 (up g 4 (I (tkQ B n i)))) := by
  intro f
  induction f with
  | zero =>
    intro i m g h1 h2 h3 h4 h5
    obtain ⟨m, rfl⟩ : ∃ k, m = k + 1 := ⟨m - 1, by omega⟩
    rw [adv8_e, sC_s, h4, h5, if_neg (by rw [I_lt (by omega) (by omega)]; omega)]
    unfold tkQ
    rw [sc_x (by omega), ← h5, up_id]
  | succ f ih =>
    intro i m g h1 h2 h3 h4 h5
    obtain ⟨m, rfl⟩ : ∃ k, m = k + 1 := ⟨m - 1, by omega⟩
    by_cases he : i < n
    · rw [adv8_e, sC_s, h4, h5, if_pos (by rw [I_lt (by omega) (by omega)]; exact he), (hT.c g).1, bs, (hT.c g).ld hn he, bs, (is_le ⟨B i, hB i he⟩).2.2.1]
      by_cases hl : isBl (B i) = true
      · rw [if_pos hl, if_neg (by decide), bs, c31, I_addl, ih (i + 1) m _ (by omega) (by omega) (by omega) (by rw [up_n _ _ (by decide)]; exact h4) (up_s _ _ _), up_up]
        unfold tkQ
        rw [sc_y (p := fun i => isBl (B i)) he hl]
      · rw [if_neg hl, if_pos rfl]
        unfold tkQ
        rw [sc_x (p := fun i => isBl (B i)) (fun q => hl q.2), ← h5, up_id]
    · rw [adv8_e, sC_s, h4, h5, if_neg (by rw [I_lt (by omega) (by omega)]; exact he)]
      unfold tkQ
      rw [sc_x (fun q => he q.1), ← h5, up_id]
theorem advT_ok (hn : n ≤ 700) (hB : ∀ i, i < n → B i < 256) {μ : Mem} (hT : TX B n μ) {q : Nat} (hq : q ≤ n) {g : Row} (h3 : g 3 = I n) (h4 : g 4 = I q) : ∃ g', advT 31 (sC μ 31 g) = some (sC μ 31 g') ∧ CTg B n q g' ∧ ∀ f, f < 5 ∨ 8 ≤ f → g' f = g f := by
  unfold advT
  have e4 : (sC μ 31 g).2.1 31 4 = I q := by rw [sC_s]; exact h4
  rw [bs, e4, c31, sC_s, up_n _ _ (by decide), up_n _ _ (by decide), h3, h4]
  have hT1 := hT.c (up g 5 (I q))
  by_cases h0 : q < n
  · have hb := hB q h0
    rw [if_pos (by rw [I_lt (by omega) (by omega)]; exact h0), hT1.1, bs, hT1.ld hn h0, bs, (is_le ⟨B q, hb⟩).1]
    by_cases hl : isLe (B q) = true
    · have eS : tkS B n q = 1 := by unfold tkS; rw [if_neg (by omega), if_pos hl]
      have eE : tkE B n q = sc (fun i => isLe (B i)) n q := by unfold tkE; rw [if_neg (by omega), if_pos hl]
      rw [if_pos hl, if_neg (by decide)]
      unfold fX6_readWord
      rw [bs, c31, rw7 hn hB hT (n - q) q fuel _ (Nat.le_refl _) (by unfold fuel; omega) hq (by rw [up_n _ _ (by decide), up_n _ _ (by decide)]; exact h3) (by rw [up_n _ _ (by decide), up_s]), bs]
      refine ⟨_, rfl, ⟨?_, ?_, ?_, ?_, ?_⟩, ?_⟩
      · rw [up_n _ _ (by decide), up_n _ _ (by decide), up_n _ _ (by decide)]; exact h3
      · rw [up_n _ _ (by decide), up_n _ _ (by decide), up_n _ _ (by decide)]; exact h4
      · rw [up_s, eE]
      · rw [up_n _ _ (by decide), up_s]; unfold kdI; rw [eS]; rfl
      · intro q; omega
      · intro f hf; rw [up_n _ _ (by omega), up_n _ _ (by omega), up_n _ _ (by omega)]
    · rw [if_neg hl, if_pos rfl, bs, hT1.ld hn h0, bs, (is_le ⟨B q, hb⟩).2.1]
      by_cases hd : isDi (B q) = true
      · have eS : tkS B n q = 2 := by unfold tkS; rw [if_neg (by omega), if_neg hl, if_pos hd]
        have eE : tkE B n q = sc (fun i => isDi (B i)) n q := by unfold tkE; rw [if_neg (by omega), if_neg hl, if_pos hd]
        rw [if_pos hd, if_neg (by decide)]
        unfold fX6_readNumber
        rw [bs, bs, c31, c31]
        obtain ⟨g', r1, r2, r3, r4⟩ := rn12 hn hB hT (q := q) (n - q) q fuel (up (up (up g 5 (I q)) 6 257) 7 0) (Nat.le_refl _) (by unfold fuel; omega) hq (Nat.le_refl _) (by rw [up_n _ _ (by decide), up_n _ _ (by decide), up_n _ _ (by decide)]; exact h3) (by rw [up_n _ _ (by decide), up_n _ _ (by decide), up_n _ _ (by decide)]; exact h4) (by rw [up_n _ _ (by decide), up_n _ _ (by decide), up_s]) (by rw [up_s, Nat.sub_self]; rfl)
        rw [r1, bs]
        refine ⟨g', rfl, ⟨?_, ?_, ?_, ?_, ?_⟩, ?_⟩
        · rw [r4 3 (by decide) (by decide), up_n _ _ (by decide), up_n _ _ (by decide), up_n _ _ (by decide)]; exact h3
        · rw [r4 4 (by decide) (by decide), up_n _ _ (by decide), up_n _ _ (by decide), up_n _ _ (by decide)]; exact h4
        · rw [r2, eE]
        · rw [r4 6 (by decide) (by decide), up_n _ _ (by decide), up_s]; unfold kdI; rw [eS]; rfl
        · intro _; rw [r3]; unfold tkV; rw [eE]
        · intro f hf; rw [r4 f (by omega) (by omega), up_n _ _ (by omega), up_n _ _ (by omega), up_n _ _ (by omega)]
      · have eE : tkE B n q = q + 1 := by unfold tkE; rw [if_neg (by omega), if_neg hl, if_neg hd]
        rw [if_neg hd, if_pos rfl, bs, hT1.ld hn h0, bs, isSign_C hb, bs]
        by_cases hs : isSg (B q) = true
        · have eS : tkS B n q = 3 := by unfold tkS; rw [if_neg (by omega), if_neg hl, if_neg hd, if_pos hs]
          rw [if_pos hs, if_neg (by decide), bs, hT1.ld hn h0, bs, bs, bs, c31, sC_s, c31]
          refine ⟨_, rfl, ⟨?_, ?_, ?_, ?_, ?_⟩, ?_⟩
          · rw [up_n _ _ (by decide), up_n _ _ (by decide), up_n _ _ (by decide)]; exact h3
          · rw [up_n _ _ (by decide), up_n _ _ (by decide), up_n _ _ (by decide)]; exact h4
          · rw [up_s, up_n _ _ (by decide), up_n _ _ (by decide), h4, I_addl, eE]
          · rw [up_n _ _ (by decide), up_s]; unfold kdI; rw [eS]; rfl
          · intro q; omega
          · intro f hf; rw [up_n _ _ (by omega), up_n _ _ (by omega), up_n _ _ (by omega)]
        · have eS : tkS B n q = 4 := by unfold tkS; rw [if_neg (by omega), if_neg hl, if_neg hd, if_neg hs]
          rw [if_neg hs, if_pos rfl, bs, bs, c31, sC_s, c31]
          refine ⟨_, rfl, ⟨?_, ?_, ?_, ?_, ?_⟩, ?_⟩
          · rw [up_n _ _ (by decide), up_n _ _ (by decide), up_n _ _ (by decide)]; exact h3
          · rw [up_n _ _ (by decide), up_n _ _ (by decide), up_n _ _ (by decide)]; exact h4
          · rw [up_s, up_n _ _ (by decide), up_n _ _ (by decide), h4, I_addl, eE]
          · rw [up_n _ _ (by decide), up_s]; unfold kdI; rw [eS]; rfl
          · intro q; omega
          · intro f hf; rw [up_n _ _ (by omega), up_n _ _ (by omega), up_n _ _ (by omega)]
  · have eS : tkS B n q = 0 := by unfold tkS; rw [if_pos (by omega)]
    have eE : tkE B n q = q := by unfold tkE; rw [if_pos (by omega)]
    rw [if_neg (by rw [I_lt (by omega) (by omega)]; exact h0), bs, c31]
    refine ⟨_, rfl, ⟨?_, ?_, ?_, ?_, ?_⟩, ?_⟩
    · rw [up_n _ _ (by decide), up_n _ _ (by decide)]; exact h3
    · rw [up_n _ _ (by decide), up_n _ _ (by decide)]; exact h4
    · rw [up_n _ _ (by decide), up_s, eE]
    · rw [up_s]; unfold kdI; rw [eS]; rfl
    · intro q; omega
    · intro f hf; rw [up_n _ _ (by omega), up_n _ _ (by omega)]
theorem advance_ok (hn : n ≤ 700) (hB : ∀ i, i < n → B i < 256) {μ : Mem} (hT : TX B n μ) {i : Nat} (hi : i ≤ n) (h3 : μ.2.1 31 3 = I n) (h5 : μ.2.1 31 5 = I i) : ∃ g, fX6_advance 31 μ = some (sC μ 31 g) ∧ CTg B n (tkQ B n i) g ∧ ∀ f, f < 4 ∨ 8 ≤ f → g f = μ.2.1 31 f := by
  unfold fX6_advance
  rw [bs, sI_C, h5, adv8 hn hB hT (n - i) i fuel _ (Nat.le_refl _) (by unfold fuel; omega) hi (by rw [up_n _ _ (by decide)]; exact h3) (up_s _ _ _), up_up]
  obtain ⟨g, e1, e2, e3⟩ := advT_ok hn hB hT (q := tkQ B n i) (sc_le hi) (g := up (μ.2.1 31) 4 (I (tkQ B n i))) (by rw [up_n _ _ (by decide)]; exact h3) (up_s _ _ _)
  exact ⟨g, e1, e2, fun f hf => by rw [e3 f (by omega), up_n _ _ (by omega)]⟩
end Lx

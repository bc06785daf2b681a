/-! EXPRESSIONS: tokens by number; the reference's machine -/
def ip (B : Nat → Nat) (n : Nat) : Nat → Nat
  | 0 => 0
  | k + 1 => tkE B n (tkQ B n (ip B n k))
def Pq (B : Nat → Nat) (n k : Nat) : Nat := tkQ B n (ip B n k)
section Tk
variable {B : Nat → Nat} {n : Nat}
theorem ip_le : ∀ k, ip B n k ≤ n := by
  intro k
  induction k with
  | zero => exact Nat.zero_le n
  | succ k ih => exact tkE_le (sc_le ih)
theorem Pq_le (k : Nat) : Pq B n k ≤ n := sc_le (ip_le k)
theorem S0 {q : Nat} : tkS B n q = 0 ↔ n ≤ q := by
  constructor
  · intro h
    unfold tkS at h
    by_cases h1 : n ≤ q
    · exact h1
    · rw [if_neg h1] at h
      split at h
      · omega
      · split at h
        · omega
        · split at h <;> omega
  · intro h
    unfold tkS
    rw [if_pos h]
theorem Pq_lt {k : Nat} (h : tkS B n (Pq B n k) ≠ 0) : Pq B n k < Pq B n (k + 1) := by
  have h1 := tkE_gt h
  have h2 := sc_ge (fun i => isBl (B i)) n (ip B n (k + 1))
  show Pq B n k < sc (fun i => isBl (B i)) n (ip B n (k + 1))
  have h3 : ip B n (k + 1) = tkE B n (Pq B n k) := rfl
  omega
theorem S_back {k : Nat} (h : tkS B n (Pq B n (k + 1)) ≠ 0) : tkS B n (Pq B n k) ≠ 0 := by
  intro e
  have h1 := S0.mp e
  have e2 : tkE B n (Pq B n k) = Pq B n k := by unfold tkE; rw [if_pos h1]
  apply h
  rw [S0]
  have h2 := sc_ge (fun i => isBl (B i)) n (ip B n (k + 1))
  show n ≤ sc (fun i => isBl (B i)) n (ip B n (k + 1))
  have h3 : ip B n (k + 1) = tkE B n (Pq B n k) := rfl
  omega
theorem S_k : ∀ k, tkS B n (Pq B n k) ≠ 0 → k ≤ Pq B n k ∧ k < n := by
  intro k
  induction k with
  | zero =>
    intro h
    exact ⟨Nat.zero_le _, by have := (tkE_gt h).2; omega⟩
  | succ k ih =>
    intro h
    have h1 := ih (S_back h)
    have h2 := Pq_lt (S_back h)
    have h3 := (tkE_gt h).2
    omega
theorem S_4 (q : Nat) : tkS B n q ≤ 4 := by
  unfold tkS
  split
  · omega
  · split
    · omega
    · split
      · omega
      · split <;> omega
/-- whether the token is this sign -/
def sg (B : Nat → Nat) (n k c : Nat) : Bool := decide (tkS B n (Pq B n k) = 3) && decide (B (Pq B n k) = c)
theorem sg_iff {k c : Nat} : sg B n k c = true ↔ tkS B n (Pq B n k) = 3 ∧ B (Pq B n k) = c := by unfold sg; simp
end Tk
/-! rows of cells -/
def AtC (c : Row) : Nat → List Int32 → Prop
  | _, [] => True
  | k, x :: l => c k = x ∧ AtC c (k + 1) l
theorem AtC_app (c : Row) : ∀ (l : List Int32) (k : Nat) (x : Int32), AtC c k (l ++ [x]) ↔ AtC c k l ∧ c (k + l.length) = x := by
  intro l
  induction l with
  | nil => intro k x; simp [AtC]
  | cons a l ih =>
    intro k x
    simp only [List.cons_append, AtC, ih, List.length_cons, and_assoc]
    rw [show k + (l.length + 1) = k + 1 + l.length by omega]
theorem AtC_congr {c c' : Row} : ∀ (l : List Int32) (k : Nat), (∀ i, k ≤ i → i < k + l.length → c i = c' i) → AtC c k l → AtC c' k l := by
  intro l
  induction l with
  | nil => intro k _ _; exact trivial
  | cons a l ih =>
    intro k h hc
    simp only [List.length_cons] at h
    exact ⟨by rw [← h k (by omega) (by omega)]; exact hc.1, ih (k + 1) (fun i h1 h2 => h i (by omega) (by omega)) hc.2⟩
theorem AtC_up {c : Row} {l : List Int32} {k i : Nat} {x : Int32} (h : AtC c k l) (hi : i < k ∨ k + l.length ≤ i) : AtC (up c i x) k l :=
  AtC_congr l k (fun j h1 h2 => (up_n _ _ (by omega)).symm) h
theorem AtC_snoc {c : Row} {l : List Int32} {k : Nat} (x : Int32) (h : AtC c k l) : AtC (up c (k + l.length) x) k (l ++ [x]) :=
  (AtC_app _ _ _ _).mpr ⟨AtC_up h (Or.inr (Nat.le_refl _)), up_s _ _ _⟩
/-- a pile, the top first -/
def WSt (c : Row) : List Nat → Prop
  | [] => True
  | a :: l => c l.length = I a ∧ WSt c l
theorem WSt_up {c : Row} : ∀ {l : List Nat} {i : Nat} {x : Int32}, WSt c l → l.length ≤ i → WSt (up c i x) l := by
  intro l
  induction l with
  | nil => intro i x _ _; exact trivial
  | cons a l ih =>
    intro i x h hi
    simp only [List.length_cons] at hi
    exact ⟨by rw [up_n _ _ (by omega)]; exact h.1, ih h.2 (by omega)⟩
/-! the reference while it reads an expression -/
/-- a fault stays; without one its place stays -/
def NF (c z y : Nat) (μ0 μ : Mem) : Prop := μ.2.1 c z = 0 → μ0.2.1 c z = 0 ∧ μ.2.1 c y = μ0.2.1 c y
theorem NF.refl (c z y : Nat) (μ : Mem) : NF c z y μ μ := fun h => ⟨h, rfl⟩
theorem NF.trans {c z y : Nat} {μ ν ξ : Mem} (h : NF c z y μ ν) (h' : NF c z y ν ξ) : NF c z y μ ξ := fun e => ⟨(h (h' e).1).1, (h' e).2.trans (h (h' e).1).2⟩
theorem NF.eq {c z y : Nat} {μ ν : Mem} (h1 : ν.2.1 c z = μ.2.1 c z) (h2 : ν.2.1 c y = μ.2.1 c y) : NF c z y μ ν := fun e => ⟨h1 ▸ e, h2⟩
theorem NF.f {ν : Mem} {f : Nat} {v : Int32} (hz : (f = 9 → v ≠ 0) ∧ (f = 10 → ν.2.1 492 9 ≠ 0)) : NF 492 9 10 ν (sC ν 492 (up (ν.2.1 492) f v)) := by
  intro e
  rw [sC_s] at e ⊢
  by_cases h9 : f = 9
  · rw [h9, up_s] at e
    exact absurd e (hz.1 h9)
  · rw [up_n _ _ (fun q => h9 q.symm)] at e
    by_cases h10 : f = 10
    · exact absurd e (hz.2 h10)
    · exact ⟨e, by rw [up_n _ _ (fun q => h10 q.symm)]⟩
def FE (k0 : Nat) (ν0 ν : Mem) : Prop := ν.1 = ν0.1 ∧ ν.2.2.2 = ν0.2.2.2 ∧ (∀ c, c ≠ 492 → c ≠ 499 → c ≠ 500 → c ≠ 501 → ν.2.1 c = ν0.2.1 c) ∧ (∀ c, c ≠ 492 → ν.2.2.1 c = ν0.2.2.1 c) ∧ (∀ f, f < 9 ∨ (10 < f ∧ f < 13) ∨ (19 ≤ f ∧ f < 24) ∨ 29 ≤ f → ν.2.1 492 f = ν0.2.1 492 f) ∧ (∀ i, i < k0 → ν.2.1 499 i = ν0.2.1 499 i) ∧ NF 492 9 10 ν0 ν
theorem FE.refl (k0 : Nat) (ν : Mem) : FE k0 ν ν := ⟨rfl, rfl, fun _ _ _ _ _ => rfl, fun _ _ => rfl, fun _ _ => rfl, fun _ _ => rfl, NF.refl _ _ _ _⟩
theorem FE.trans {k0 : Nat} {μ ν ξ : Mem} (h : FE k0 μ ν) (h' : FE k0 ν ξ) : FE k0 μ ξ := ⟨h'.1.trans h.1, h'.2.1.trans h.2.1, fun c a b d e => (h'.2.2.1 c a b d e).trans (h.2.2.1 c a b d e), fun c a => (h'.2.2.2.1 c a).trans (h.2.2.2.1 c a), fun f a => (h'.2.2.2.2.1 f a).trans (h.2.2.2.2.1 f a), fun i a => (h'.2.2.2.2.2.1 i a).trans (h.2.2.2.2.2.1 i a), h.2.2.2.2.2.2.trans h'.2.2.2.2.2.2⟩
theorem FE.f {k0 : Nat} {ν : Mem} {f : Nat} (v : Int32) (hf : f = 9 ∨ f = 10 ∨ (24 ≤ f ∧ f < 29)) (hz : (f = 9 → v ≠ 0) ∧ (f = 10 → ν.2.1 492 9 ≠ 0)) : FE k0 ν (sC ν 492 (up (ν.2.1 492) f v)) := ⟨rfl, rfl, fun c a _ _ _ => sC_n _ _ a, fun _ _ => rfl, fun g hg => by rw [sC_s, up_n _ _ (by omega)], fun i _ => by rw [sC_n _ _ (by decide)], NF.f hz⟩
theorem FE.c {k0 : Nat} {ν : Mem} {c i : Nat} (v : Int32) (hc : c = 499 ∧ k0 ≤ i ∨ c = 500 ∨ c = 501) : FE k0 ν (sC ν c (up (ν.2.1 c) i v)) := by
  refine ⟨rfl, rfl, fun d _ a b e => sC_n _ _ (by omega), fun _ _ => rfl, fun g hg => by rw [sC_n _ _ (by omega)], fun j hj => ?_, NF.eq (by rw [sC_n _ _ (by omega)]) (by rw [sC_n _ _ (by omega)])⟩
  by_cases e : c = 499
  · subst e; rw [sC_s, up_n _ _ (by omega)]
  · rw [sC_n _ _ (fun q => e q.symm)]
section Ma
variable {B : Nat → Nat} {n k0 fi la : Nat} {ν0 : Mem}
def RB (B : Nat → Nat) (n k0 fi la : Nat) (ν0 : Mem) (k : Nat) (ν : Mem) : Prop := RX B n ν ∧ RTg B n (Pq B n k) (ν.2.1 492) (ν.2.2.1 492) ∧ FE k0 ν0 ν ∧ ν.2.1 492 25 = I fi ∧ ν.2.1 492 26 = I la
theorem RB.f {k : Nat} {ν : Mem} (h : RB B n k0 fi la ν0 k ν) {f : Nat} (v : Int32) (hf : f = 9 ∨ f = 10 ∨ f = 24 ∨ f = 27 ∨ f = 28) (hz : (f = 9 → v ≠ 0) ∧ (f = 10 → ν.2.1 492 9 ≠ 0) := by exact ⟨fun h => absurd h (by decide), fun h => absurd h (by decide)⟩) : RB B n k0 fi la ν0 k (sC ν 492 (up (ν.2.1 492) f v)) := by
  obtain ⟨⟨h1, h2⟩, ⟨r12, r13, r14, r15, r16, r17, r18, r19⟩, h3, h4, h5⟩ := h
  refine ⟨⟨h1.sC _ _, fun i hi => by rw [sC_n _ _ (by decide)]; exact h2 i hi⟩, ?_, h3.trans (FE.f v (by omega) hz), by rw [sC_s, up_n _ _ (by omega)]; exact h4, by rw [sC_s, up_n _ _ (by omega)]; exact h5⟩
  rw [sC_s]
  refine ⟨?_, ?_, ?_, ?_, ?_, fun q => ?_, fun q => ?_, r19⟩
  · rw [up_n _ _ (by omega)]; exact r12
  · rw [up_n _ _ (by omega)]; exact r13
  · rw [up_n _ _ (by omega)]; exact r14
  · rw [up_n _ _ (by omega)]; exact r15
  · rw [up_n _ _ (by omega)]; exact r16
  · rw [up_n _ _ (by omega)]; exact r17 q
  · rw [up_n _ _ (by omega)]; exact r18 q
theorem RB.c {k : Nat} {ν : Mem} (h : RB B n k0 fi la ν0 k ν) {c i : Nat} (v : Int32) (hc : c = 499 ∧ k0 ≤ i ∨ c = 500 ∨ c = 501) : RB B n k0 fi la ν0 k (sC ν c (up (ν.2.1 c) i v)) := by
  obtain ⟨⟨h1, h2⟩, h6, h3, h4, h5⟩ := h
  have e : (sC ν c (up (ν.2.1 c) i v)).2.1 492 = ν.2.1 492 := sC_n _ _ (by omega)
  refine ⟨⟨h1.sC _ _, fun j hj => by rw [sC_n _ _ (by omega)]; exact h2 j hj⟩, by rw [e]; exact h6, h3.trans (FE.c v hc), by rw [e]; exact h4, by rw [e]; exact h5⟩
/-- all of it: token, budget, cells written, what waits, how deep, tested, fault -/
def RE (B : Nat → Nat) (n k0 fi la : Nat) (ν0 : Mem) (k b : Nat) (xs : List Int32) (ws : List Nat) (dep : Nat) (ts : Nat → Bool) (fk fp : Int32) (ν : Mem) : Prop :=
  RB B n k0 fi la ν0 k ν ∧ ν.2.1 492 9 = fk ∧ ν.2.1 492 24 = I (k0 + xs.length) ∧ AtC (ν.2.1 499) k0 xs ∧ ν.2.1 492 27 = I ws.length ∧ WSt (ν.2.1 500) ws ∧ ν.2.1 492 28 = I dep ∧ (∀ d, 1 ≤ d → d ≤ dep → ν.2.1 501 d = bI (ts d)) ∧ ws.length ≤ b ∧ k0 + xs.length + ws.length + 1 ≤ 2 * b ∧ b ≤ 700 ∧ k ≤ n ∧ (1 ≤ dep ∧ dep ≤ 6) ∧ ν.2.1 492 10 = fp
variable {k b dep : Nat} {xs : List Int32} {ws : List Nat} {ts : Nat → Bool} {fk fp : Int32} {ν : Mem}
theorem RE.bm (h : RE B n k0 fi la ν0 k b xs ws dep ts fk fp ν) {b' : Nat} (h1 : b ≤ b') (h2 : b' ≤ 700) : RE B n k0 fi la ν0 k b' xs ws dep ts fk fp ν := by
  obtain ⟨a1, a2, a3, a4, a5, a6, a7, a8, a9, a10, a11, a12, a13, a14⟩ := h
  exact ⟨a1, a2, a3, a4, a5, a6, a7, a8, by omega, by omega, h2, a12, a13, a14⟩
theorem RE.goes (hn : n ≤ 700) (hB : ∀ i, i < n → B i < 256) (h : RE B n k0 fi la ν0 k b xs ws dep ts fk fp ν) (hS : tkS B n (Pq B n k) ≠ 0) : ∃ ν', fX11_goes 492 ν = some ν' ∧ RE B n k0 fi la ν0 (k + 1) b xs ws dep ts fk fp ν' := by
  obtain ⟨⟨a1, a1r, a1f, a25, a26⟩, a2, a3, a4, a5, a6, a7, a8, a9, a10, a11, a12, a13, a14⟩ := h
  obtain ⟨g, l, e1, e2, e3, e4⟩ := goes_ok hn hB a1 (i := ip B n (k + 1)) (ip_le _) a1r.1 a1r.2.1
  refine ⟨_, e1, ⟨⟨rM_gr a1.1 _ _, fun i hi => by rw [rM_n _ _ _ (by decide)]; exact a1.2 i hi⟩, by rw [rM_g, rM_h]; exact e2, ?_, by rw [rM_g, e3 25 (by omega)]; exact a25, by rw [rM_g, e3 26 (by omega)]; exact a26⟩, ?_, ?_, ?_, ?_, ?_, ?_, ?_, a9, a10, a11, (S_k k hS).2, a13, by rw [rM_g, e3 10 (by omega)]; exact a14⟩
  · refine a1f.trans ⟨rfl, rfl, fun c h1 _ _ _ => rM_n _ _ _ h1, fun c h1 => sLC_n _ _ h1, fun f hf => by rw [rM_g, e3 f (by omega)], fun i _ => by rw [rM_n _ _ _ (by decide)], NF.eq (by rw [rM_g, e3 9 (by omega)]) (by rw [rM_g, e3 10 (by omega)])⟩
  · rw [rM_g, e3 9 (by omega)]; exact a2
  · rw [rM_g, e3 24 (by omega)]; exact a3
  · rw [rM_n _ _ _ (by decide)]; exact a4
  · rw [rM_g, e3 27 (by omega)]; exact a5
  · rw [rM_n _ _ _ (by decide)]; exact a6
  · rw [rM_g, e3 28 (by omega)]; exact a7
  · intro d hd1 hd; rw [rM_n _ _ _ (by decide)]; exact a8 d hd1 hd
theorem RE.puts (h : RE B n k0 fi la ν0 k b xs ws dep ts fk fp ν) (x : Int32) (hb : k0 + xs.length + ws.length + 2 ≤ 2 * b) : ∃ ν', fX11_puts 492 x ν = some ν' ∧ RE B n k0 fi la ν0 k b (xs ++ [x]) ws dep ts fk fp ν' := by
  obtain ⟨a1, a2, a3, a4, a5, a6, a7, a8, a9, a10, a11, a12, a13, a14⟩ := h
  unfold fX11_puts
  rw [g_492_31 a1.1.1, bs, a3, st_499 (by omega), bs, bs, sI_C, sC_n _ _ (by decide : (492 : Nat) ≠ 499), a3, I_addl]
  have q := (a1.c (c := 499) (i := k0 + xs.length) x (Or.inl ⟨rfl, by omega⟩)).f (f := 24) (I (k0 + xs.length + 1)) (by omega)
  rw [sC_n _ _ (by decide : (492 : Nat) ≠ 499)] at q
  refine ⟨_, rfl, q, ?_, ?_, ?_, ?_, ?_, ?_, ?_, a9, ?_, a11, a12, a13, by rw [sC_s, up_n _ _ (by decide)]; exact a14⟩
  · rw [sC_s, up_n _ _ (by decide)]; exact a2
  · rw [sC_s, up_s, List.length_append]; rfl
  · rw [sC_n _ _ (by decide), sC_s]; exact AtC_snoc x a4
  · rw [sC_s, up_n _ _ (by decide)]; exact a5
  · rw [sC_n _ _ (by decide), sC_n _ _ (by decide)]; exact a6
  · rw [sC_s, up_n _ _ (by decide)]; exact a7
  · intro d hd1 hd; rw [sC_n _ _ (by decide), sC_n _ _ (by decide)]; exact a8 d hd1 hd
  · rw [List.length_append]; show k0 + (xs.length + 1) + ws.length + 1 ≤ 2 * b; omega
theorem RE.wait (h : RE B n k0 fi la ν0 k b xs ws dep ts fk fp ν) (a : Nat) (hw : ws.length + 1 ≤ b) (hb : k0 + xs.length + ws.length + 2 ≤ 2 * b) : ∃ ν', fX11_waitsFor 492 (I a) ν = some ν' ∧ RE B n k0 fi la ν0 k b xs (a :: ws) dep ts fk fp ν' := by
  obtain ⟨a1, a2, a3, a4, a5, a6, a7, a8, a9, a10, a11, a12, a13, a14⟩ := h
  unfold fX11_waitsFor
  rw [g_492_32 a1.1.1, bs, a5, st_500 (by omega), bs, bs, sI_C, sC_n _ _ (by decide : (492 : Nat) ≠ 500), a5, I_addl]
  have q := (a1.c (c := 500) (i := ws.length) (I a) (Or.inr (Or.inl rfl))).f (f := 27) (I (ws.length + 1)) (by omega)
  rw [sC_n _ _ (by decide : (492 : Nat) ≠ 500)] at q
  refine ⟨_, rfl, q, ?_, ?_, ?_, ?_, ?_, ?_, ?_, ?_, ?_, a11, a12, a13, by rw [sC_s, up_n _ _ (by decide)]; exact a14⟩
  · rw [sC_s, up_n _ _ (by decide)]; exact a2
  · rw [sC_s, up_n _ _ (by decide)]; exact a3
  · rw [sC_n _ _ (by decide), sC_n _ _ (by decide)]; exact a4
  · rw [sC_s, up_s]; rfl
  · rw [sC_n _ _ (by decide), sC_s]
    exact ⟨up_s _ _ _, WSt_up a6 (Nat.le_refl _)⟩
  · rw [sC_s, up_n _ _ (by decide)]; exact a7
  · intro d hd1 hd; rw [sC_n _ _ (by decide), sC_n _ _ (by decide)]; exact a8 d hd1 hd
  · exact hw
  · show k0 + xs.length + (ws.length + 1) + 1 ≤ 2 * b; omega
def stg (a : Nat) : Nat := if a = 5 then 1 else if a = 4 then 2 else if a = 3 then 3 else if a = 6 ∨ a = 7 then 4 else if a = 8 ∨ a = 9 then 5 else 6
theorem stg_ok : ∀ a : Fin 15, fX11_strength (I a.1) = I (stg a.1) ∧ fX11_isOpen (I a.1) = (if a.1 < 14 then 0 else 1) := by decide +kernel
theorem stg_6 (a : Nat) : stg a ≤ 6 := by
  unfold stg
  split
  · omega
  · split
    · omega
    · split
      · omega
      · split
        · omega
        · split <;> omega
theorem drops_lp {s : Nat} (hs : s ≤ 6) {base : List Nat} (hbase : ∀ a l, base = a :: l → a = 14 ∨ (a < 14 ∧ stg a < s)) : ∀ (p : List Nat) (xs : List Int32) (m : Nat) (ν : Mem), p.length < m → (∀ a ∈ p, a < 14 ∧ s ≤ stg a) → RE B n k0 fi la ν0 k b xs (p ++ base) dep ts fk fp ν → ∃ ν', fX11_drops_0 m 492 (I s) ν = some ν' ∧ RE B n k0 fi la ν0 k b (xs ++ p.map I) base dep ts fk fp ν' := by
  intro p
  induction p with
  | nil =>
    intro xs m ν hm _ h
    obtain ⟨m, rfl⟩ : ∃ j, m = j + 1 := ⟨m - 1, by omega⟩
    have h' := h
    obtain ⟨a1, a2, a3, a4, a5, a6, a7, a8, a9, a10, a11, a12, a13, a14⟩ := h
    refine ⟨ν, ?_, by rw [List.map_nil, List.append_nil]; exact h'⟩
    rw [List.nil_append] at a5 a6 a9
    rw [fX11_drops_0, a5]
    cases base with
    | nil => rw [if_neg (by decide)]
    | cons a l =>
      have hl : (a :: l).length = l.length + 1 := rfl
      rw [hl] at a9
      rw [if_pos (by rw [l_ltI (m := 0) (by omega) (by decide)]; show 0 < l.length + 1; omega), g_492_32 a1.1.1, bs, hl, I_subl (by show 1 ≤ l.length + 1; omega), show l.length + 1 - OfNat.ofNat 1 = l.length from rfl, ld_500 (by omega), bs, a6.1]
      rcases hbase a l rfl with e | ⟨e1, e2⟩
      · rw [e, (stg_ok ⟨14, by decide⟩).2, if_neg (by decide)]
      · rw [(stg_ok ⟨a, by omega⟩).2, if_pos (show (if a < 14 then (0 : Int32) else 1) = 0 by rw [if_pos e1]), bs, ld_500 (by omega), bs, a6.1, (stg_ok ⟨a, by omega⟩).1, if_pos (by rw [I_lt (by show stg a < _; have := stg_6 a; omega) (by omega)]; exact e2)]
  | cons a p ih =>
    intro xs m ν hm hp h
    obtain ⟨m, rfl⟩ : ∃ j, m = j + 1 := ⟨m - 1, by omega⟩
    have h' := h
    obtain ⟨a1, a2, a3, a4, a5, a6, a7, a8, a9, a10, a11, a12, a13, a14⟩ := h
    have ha := hp a (by simp)
    have hl : (a :: p ++ base).length = (p ++ base).length + 1 := rfl
    rw [hl] at a9 a10
    have a61 : ν.2.1 500 (p ++ base).length = I a := a6.1
    rw [fX11_drops_0, a5, if_pos (by rw [hl, l_ltI (m := 0) (by omega) (by decide)]; show 0 < _ + 1; omega), g_492_32 a1.1.1, bs, hl, I_subl (by show 1 ≤ (p ++ base).length + 1; omega), show (p ++ base).length + 1 - OfNat.ofNat 1 = (p ++ base).length from rfl, ld_500 (by omega), bs, a61, (stg_ok ⟨a, by omega⟩).2, if_pos (show (if a < 14 then (0 : Int32) else 1) = 0 by rw [if_pos ha.1]), bs, ld_500 (by omega), bs, a61, (stg_ok ⟨a, by omega⟩).1, if_neg (by rw [I_lt (by show stg a < _; have := stg_6 a; omega) (by omega)]; show ¬ stg a < s; omega), bs, sI_C, g_492_32 (a1.1.1.sC _ _), bs, sC_s, up_s, ld_500 (by omega), bs, sC_n _ _ (by decide : (500 : Nat) ≠ 492), a61]
    have hR : RE B n k0 fi la ν0 k b xs (p ++ base) dep ts fk fp (sC ν 492 (up (ν.2.1 492) 27 (I (p ++ base).length))) := by
      refine ⟨a1.f (f := 27) _ (by omega), ?_, ?_, ?_, ?_, ?_, ?_, ?_, by omega, by omega, a11, a12, a13, by rw [sC_s, up_n _ _ (by decide)]; exact a14⟩
      · rw [sC_s, up_n _ _ (by decide)]; exact a2
      · rw [sC_s, up_n _ _ (by decide)]; exact a3
      · rw [sC_n _ _ (by decide)]; exact a4
      · rw [sC_s, up_s]
      · rw [sC_n _ _ (by decide)]; exact a6.2
      · rw [sC_s, up_n _ _ (by decide)]; exact a7
      · intro d hd1 hd; rw [sC_n _ _ (by decide)]; exact a8 d hd1 hd
    obtain ⟨ν1, e1, h1⟩ := hR.puts (I a) (by omega)
    rw [e1, bs]
    obtain ⟨ν2, e2, h2⟩ := ih (xs ++ [I a]) m ν1 (by simp only [List.length_cons] at hm; omega) (fun c hc => hp c (by simp [hc])) h1
    refine ⟨ν2, e2, ?_⟩
    rw [List.map_cons, show xs ++ I a :: p.map I = xs ++ [I a] ++ p.map I by simp]
    exact h2
theorem RE.drops {s : Nat} (hs : s ≤ 6) {p base : List Nat} (h : RE B n k0 fi la ν0 k b xs (p ++ base) dep ts fk fp ν) (hp : ∀ a ∈ p, a < 14 ∧ s ≤ stg a) (hbase : ∀ a l, base = a :: l → a = 14 ∨ (a < 14 ∧ stg a < s)) : ∃ ν', fX11_drops 492 (I s) ν = some ν' ∧ RE B n k0 fi la ν0 k b (xs ++ p.map I) base dep ts fk fp ν' := by
  have hl : p.length ≤ (p ++ base).length := by rw [List.length_append]; omega
  have := h.2.2.2.2.2.2.2.2.1
  have := h.2.2.2.2.2.2.2.2.2.2.1
  exact drops_lp hs hbase p xs fuel ν (by unfold fuel; omega) hp h
theorem RE.tst (h : RE B n k0 fi la ν0 k b xs ws dep ts fk fp ν) (v : Bool) : ∃ ν', ((gR ν 492 33 2).bind fun a => (stI ν a (ν.2.1 492 28) (bI v)).bind fun μ => some μ) = some ν' ∧ RE B n k0 fi la ν0 k b xs ws dep (up ts dep v) fk fp ν' := by
  obtain ⟨a1, a2, a3, a4, a5, a6, a7, a8, a9, a10, a11, a12, a13, a14⟩ := h
  rw [g_492_33 a1.1.1, bs, a7, st_501 (by omega), bs]
  refine ⟨_, rfl, a1.c (c := 501) _ (Or.inr (Or.inr rfl)), ?_, ?_, ?_, ?_, ?_, ?_, ?_, a9, a10, a11, a12, a13, by rw [sC_n _ _ (by decide)]; exact a14⟩
  · rw [sC_n _ _ (by decide)]; exact a2
  · rw [sC_n _ _ (by decide)]; exact a3
  · rw [sC_n _ _ (by decide)]; exact a4
  · rw [sC_n _ _ (by decide)]; exact a5
  · rw [sC_n _ _ (by decide)]; exact a6
  · rw [sC_n _ _ (by decide)]; exact a7
  · intro d hd1 hd
    rw [sC_s, up_e, up_e]
    split
    · rfl
    · exact a8 d hd1 hd
theorem RE.fl (h : RE B n k0 fi la ν0 k b xs ws dep ts fk fp ν) {f : Nat} (v : Int32) (hf : f = 9 ∨ f = 10) (hz : (f = 9 → v ≠ 0) ∧ (f = 10 → ν.2.1 492 9 ≠ 0)) : RE B n k0 fi la ν0 k b xs ws dep ts (if f = 9 then v else fk) (if f = 10 then v else fp) (sC ν 492 (up (ν.2.1 492) f v)) := by
  obtain ⟨a1, a2, a3, a4, a5, a6, a7, a8, a9, a10, a11, a12, a13, a14⟩ := h
  refine ⟨a1.f v (by omega) hz, ?_, ?_, ?_, ?_, ?_, ?_, ?_, a9, a10, a11, a12, a13, ?_⟩
  · rw [sC_s, up_e]
    by_cases e : f = 9
    · rw [if_pos e, if_pos e.symm]
    · rw [if_neg e, if_neg (fun q => e q.symm)]; exact a2
  · rw [sC_s, up_n _ _ (by omega)]; exact a3
  · rw [sC_n _ _ (by decide)]; exact a4
  · rw [sC_s, up_n _ _ (by omega)]; exact a5
  · rw [sC_n _ _ (by decide)]; exact a6
  · rw [sC_s, up_n _ _ (by omega)]; exact a7
  · intro d hd1 hd; rw [sC_n _ _ (by decide)]; exact a8 d hd1 hd
  · rw [sC_s, up_e]
    by_cases e : f = 10
    · rw [if_pos e, if_pos e.symm]
    · rw [if_neg e, if_neg (fun q => e q.symm)]; exact a14
theorem RE.wrong (h : RE B n k0 fi la ν0 k b xs ws dep ts 0 fp ν) (w : Int32) (hw : w ≠ 0 := by decide) : ∃ ν', fX11_wrong 492 w ν = some ν' ∧ RE B n k0 fi la ν0 k b xs ws dep ts w (I (Pq B n k)) ν' := by
  unfold fX11_wrong
  rw [if_pos h.2.1, bs, bs, sI_C, sI_C]
  have h1 := h.fl (f := 9) w (Or.inl rfl) ⟨fun _ => hw, fun q => absurd q (by decide)⟩
  have h2 := h1.fl (f := 10) ((sC ν 492 (up (ν.2.1 492) 9 w)).2.1 492 15) (Or.inr rfl) ⟨fun q => absurd q (by decide), fun _ => by rw [sC_s, up_s]; exact hw⟩
  refine ⟨_, rfl, ?_⟩
  rw [if_pos rfl, if_neg (by decide), if_pos rfl] at h2
  have e : (sC ν 492 (up (ν.2.1 492) 9 w)).2.1 492 15 = I (Pq B n k) := h1.1.2.1.2.2.2.1
  rw [e] at h2 ⊢
  exact h2
/-- signs, words -/
theorem RE.sign (hB : ∀ i, i < n → B i < 256) (h : RE B n k0 fi la ν0 k b xs ws dep ts fk fp ν) {c : Nat} (hc : c < 256) : fX11_isSign 492 (I c) ν = if sg B n k c = true then 1 else 0 := by
  obtain ⟨r12, r13, r14, r15, r16, r17, r18, r19⟩ := h.1.2.1
  have hS4 := S_4 (B := B) (n := n) (Pq B n k)
  unfold fX11_isSign
  rw [r14]
  by_cases h3 : tkS B n (Pq B n k) = 3
  · have hlt := hB _ (tkE_gt (B := B) (n := n) (q := Pq B n k) (by omega)).2
    rw [if_pos (show I (tkS B n (Pq B n k)) = 3 by rw [h3]; rfl), r18 (by omega)]
    by_cases e : B (Pq B n k) = c
    · rw [if_pos (by rw [e]), if_pos (sg_iff.mpr ⟨h3, e⟩)]
    · rw [if_neg (fun q => e ((I_inj (by omega) (by omega)).mp q)), if_neg (fun q => e (sg_iff.mp q).2)]
  · rw [if_neg (show ¬ I (tkS B n (Pq B n k)) = 3 from fun q => h3 ((I_inj (m := 3) (by omega) (by omega)).mp q)), if_neg (fun q => h3 (sg_iff.mp q).1)]
theorem RE.word (hn : n ≤ 700) (h : RE B n k0 fi la ν0 k b xs ws dep ts fk fp ν) : fX11_knownWord 492 ν = some (if KW B n (Pq B n k) = 17 then -1 else I (KW B n (Pq B n k))) := known_ok hn (Pq_le k) h.1.2.1
theorem RE.good (h : RE B n k0 fi la ν0 k b xs ws dep ts fk fp ν) : fX11_isGood 492 ν = if fk = 0 then 1 else 0 := by
  unfold fX11_isGood
  rw [h.2.1]
end Ma

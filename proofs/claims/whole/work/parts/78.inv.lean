/-! WHAT HOLDS BETWEEN THE CALLS -/
def krow (μ : Mem) (c i : Nat) : Row := fun k => μ.2.1 c (79 * i + k)
def Good (C : Cel) (pc : Nat → Int32) (r : Row) : Prop := RowOK C r ∧ InkOK C r ∧ (∀ p, p < C.P → pc p = r (73 + p)) ∧ ∀ d, d < 6 → ∀ p, 8 ≤ p → tb (r (49 + d)) p = false
/-- kept rows: the class's at a (States from st on), the reference's in rc, how many in its field rf -/
def ActI (C : Cel) (pc : Nat → Int32) (a st rc rf : Nat) (μ : Mem) : Prop := ∃ K o, K ≤ 40 ∧ o < 40 ∧ μ.2.1 a 0 = I K ∧ μ.2.1 a 1 = I o ∧ μ.2.1 492 rf = I K ∧ ∀ i, i < K → SH C (krow μ rc i) (st + 5 * ((o + i) % 40)) μ ∧ Good C pc (krow μ rc i)
/-- what was seen: the class's at a, the reference's in rc, how many in its field rf -/
def SeeI (C : Cel) (a rc rf : Nat) (μ : Mem) : Prop := ∃ n, n ≤ 8 ∧ μ.2.1 a 0 = I n ∧ μ.2.1 492 rf = I n ∧ ∀ i, i < n → ∃ w d b, w < C.P ∧ d < C.D ∧ b ≤ 20 ∧ μ.2.1 (a + 1) i = I w ∧ μ.2.1 (a + 2) i = I d ∧ μ.2.1 (a + 3) i = I b ∧ μ.2.1 rc (3 * i) = I w ∧ μ.2.1 rc (3 * i + 1) = I d ∧ μ.2.1 rc (3 * i + 2) = I b
def ImgI (C : Cel) (pc : Nat → Int32) (μ : Mem) : Prop := (μ.2.1 0 10 = 0 ∧ μ.2.1 492 54 = 0) ∨ (μ.2.1 0 10 = 1 ∧ μ.2.1 492 54 = 1 ∧ SH C (μ.2.1 515) 244 μ ∧ Good C pc (μ.2.1 515) ∧ ActI C pc 249 251 516 55 μ ∧ SeeI C 451 517 56 μ)
def TapI (μ : Mem) : Prop := ∃ t, t ≤ 700 ∧ μ.2.1 0 1 = I t ∧ μ.2.1 492 8 = I t ∧ ∀ i, i < t → ∃ b, b < 256 ∧ μ.2.1 1 i = I b ∧ μ.2.1 495 i = I b
def INV (C : Cel) (G Fd : List Itm) (pc : Nat → Int32) (k : Nat) (r : Row) (μ : Mem) : Prop :=
  Gr μ ∧ C.ok ∧ (k = 3 ∨ k = 17) ∧ μ.2.2.2 0 4 = some k ∧ μ.2.2.2 0 5 = some (20 - k) ∧ CE C G Fd pc k μ ∧ RC C μ ∧ RK G Fd μ ∧ Good C pc r ∧ SH C r 33 μ ∧ E79 (rwb μ 0) r ∧
  ActI C pc 38 40 503 36 μ ∧ SeeI C 240 512 49 μ ∧ ImgI C pc μ ∧ TapI μ ∧ μ.2.1 0 2 = μ.2.1 492 10 ∧ (∀ i, i < 3 → μ.2.1 2 i = μ.2.1 496 i) ∧ μ.2.1 492 41 = -1 ∧ μ.2.1 492 45 = 0
/-- what queries may change -/
def LC : List Nat := [8, 11, 22, 25, 455, 456, 457, 458, 459, 460, 461, 462, 463, 464, 465, 466, 467, 468, 469, 470, 471, 472, 473, 474, 475, 476, 477, 478, 479, 480, 481, 482, 483, 484, 485, 486, 487, 488, 489, 490, 491]
def L2C : List Nat := [456, 461, 462, 468, 469, 488, 518]
def AG (μ ν : Mem) : Prop := ν.1 = μ.1 ∧ (∀ a f, ¬ (a = 455 ∧ f = 7) → ν.2.2.2 a f = μ.2.2.2 a f) ∧ (∀ c, c ∉ LC ++ LR → ν.2.1 c = μ.2.1 c) ∧ (∀ c, c ∉ L2C → ν.2.2.1 c = μ.2.2.1 c) ∧ (∀ f, f ∉ [0, 41, 42, 43, 45, 53] → ν.2.1 492 f = μ.2.1 492 f) ∧ (∀ k, k < 79 → ν.2.1 502 k = μ.2.1 502 k) ∧ ν.2.1 492 41 = μ.2.1 492 41 ∧ ν.2.1 492 45 = μ.2.1 492 45
theorem LA_lt : ∀ c ∈ LC ++ LR, (c = 8 ∨ c = 11 ∨ c = 22 ∨ c = 25) ∨ (455 ≤ c ∧ c ≠ 493 ∧ c ≠ 494 ∧ c ≠ 495 ∧ c ≠ 496 ∧ c ≠ 503 ∧ c ≠ 512 ∧ c ≠ 515 ∧ c ≠ 516 ∧ c ≠ 517) := by decide
theorem L2_lt : ∀ c ∈ L2C, 455 ≤ c := by decide
theorem AG.lo {μ ν : Mem} (h : AG μ ν) {c : Nat} (h1 : c < 455) (h2 : c ≠ 8) (h3 : c ≠ 11) (h4 : c ≠ 22) (h5 : c ≠ 25) : ν.2.1 c = μ.2.1 c := by
  refine h.2.2.1 c (fun q => ?_)
  rcases LA_lt c q with q | q <;> omega
theorem AG.hi {μ ν : Mem} (h : AG μ ν) {c : Nat} (h1 : c = 493 ∨ c = 494 ∨ c = 495 ∨ c = 496 ∨ c = 503 ∨ c = 512 ∨ c = 515 ∨ c = 516 ∨ c = 517) : ν.2.1 c = μ.2.1 c := by
  refine h.2.2.1 c (fun q => ?_)
  rcases LA_lt c q with q | q <;> omega
theorem AG.lg {μ ν : Mem} (h : AG μ ν) {c : Nat} (h1 : c < 455) : ν.2.2.1 c = μ.2.2.1 c := by
  refine h.2.2.2.1 c (fun q => ?_)
  have := L2_lt c q
  omega
theorem AG.sh {C : Cel} {r : Row} {a : Nat} {μ ν : Mem} (h : AG μ ν) (hS : SH C r a μ) (h1 : 26 ≤ a) (h2 : a < 450) : SH C r a ν :=
  hS.fr (h.lo (by omega) (by omega) (by omega) (by omega) (by omega)) (h.lg (by omega)) (h.lo (by omega) (by omega) (by omega) (by omega) (by omega)) (h.lo (by omega) (by omega) (by omega) (by omega) (by omega)) (h.lo (by omega) (by omega) (by omega) (by omega) (by omega)) (h.lo (by omega) (by omega) (by omega) (by omega) (by omega))
theorem AG.gr {μ ν : Mem} (h : AG μ ν) (hG : Gr μ) : Gr ν := ⟨h.1.trans hG.1, fun e he => by rw [h.2.1 _ _ (gfix_455 e he)]; exact hG.2 e he⟩
theorem AG.act {C : Cel} {pc : Nat → Int32} {a st rc rf : Nat} {μ ν : Mem} (h : AG μ ν) (hA : ActI C pc a st rc rf μ) (ha : a = 38 ∧ st = 40 ∨ a = 249 ∧ st = 251) (hrc : rc = 503 ∨ rc = 516) (hrf : rf ∉ [0, 41, 42, 43, 45, 53]) : ActI C pc a st rc rf ν := by
  obtain ⟨K, o, h1, h2, h3, h4, h5, h6⟩ := hA
  have e1 : ν.2.1 a = μ.2.1 a := h.lo (by omega) (by omega) (by omega) (by omega) (by omega)
  have e2 : ∀ i, krow ν rc i = krow μ rc i := by
    intro i
    unfold krow
    rw [h.hi (by omega)]
  refine ⟨K, o, h1, h2, by rw [e1]; exact h3, by rw [e1]; exact h4, by rw [h.2.2.2.2.1 rf hrf]; exact h5, ?_⟩
  intro i hi
  rw [e2]
  exact ⟨h.sh (h6 i hi).1 (by omega) (by omega), (h6 i hi).2⟩
theorem AG.see {C : Cel} {a rc rf : Nat} {μ ν : Mem} (h : AG μ ν) (hA : SeeI C a rc rf μ) (ha : a = 240 ∨ a = 451) (hrc : rc = 512 ∨ rc = 517) (hrf : rf ∉ [0, 41, 42, 43, 45, 53]) : SeeI C a rc rf ν := by
  obtain ⟨n, h1, h2, h3, h4⟩ := hA
  have e0 : ν.2.1 a = μ.2.1 a := h.lo (by omega) (by omega) (by omega) (by omega) (by omega)
  have e1 : ν.2.1 (a + 1) = μ.2.1 (a + 1) := h.lo (by omega) (by omega) (by omega) (by omega) (by omega)
  have e2 : ν.2.1 (a + 2) = μ.2.1 (a + 2) := h.lo (by omega) (by omega) (by omega) (by omega) (by omega)
  have e3 : ν.2.1 (a + 3) = μ.2.1 (a + 3) := h.lo (by omega) (by omega) (by omega) (by omega) (by omega)
  have e4 : ν.2.1 rc = μ.2.1 rc := h.hi (by omega)
  refine ⟨n, h1, by rw [e0]; exact h2, by rw [h.2.2.2.2.1 rf hrf]; exact h3, ?_⟩
  rw [e1, e2, e3, e4]
  exact h4
theorem INV.q {C : Cel} {G Fd : List Itm} {pc : Nat → Int32} {k : Nat} {r : Row} {μ ν : Mem} (hI : INV C G Fd pc k r μ) (h : AG μ ν) : INV C G Fd pc k r ν := by
  obtain ⟨a1, a2, a3, a4, a5, a6, a7, a8, a9, a10, a11, a12, a13, a14, a15, a16, a17, a18, a19⟩ := hI
  have hlo : ∀ {c : Nat}, c < 455 → c ≠ 8 → c ≠ 11 → c ≠ 22 → c ≠ 25 → ν.2.1 c = μ.2.1 c := fun h1 h2 h3 h4 h5 => h.lo h1 h2 h3 h4 h5
  refine ⟨h.gr a1, a2, a3, by rw [h.2.1 _ _ (by omega)]; exact a4, by rw [h.2.1 _ _ (by omega)]; exact a5, ?_, ?_, ?_, a9, h.sh a10 (by omega) (by omega), ?_, h.act a12 (Or.inl ⟨rfl, rfl⟩) (Or.inl rfl) (by decide), h.see a13 (Or.inl rfl) (Or.inl rfl) (by decide), ?_, ?_, ?_, ?_, by rw [h.2.2.2.2.2.2.1]; exact a18, by rw [h.2.2.2.2.2.2.2]; exact a19⟩
  · exact a6.fr (hlo (by omega) (by omega) (by omega) (by omega) (by omega)) (h.lg (by omega)) (hlo (by omega) (by omega) (by omega) (by omega) (by omega)) (hlo (by omega) (by omega) (by omega) (by omega) (by omega)) (hlo (by omega) (by omega) (by omega) (by omega) (by omega)) (hlo (by omega) (by omega) (by omega) (by omega) (by omega)) (hlo (by omega) (by omega) (by omega) (by omega) (by omega)) (hlo (by omega) (by omega) (by omega) (by omega) (by omega))
  · refine ⟨h.gr a1, a2, ?_, ?_, ?_⟩
    · rw [h.2.2.2.2.1 1 (by decide)]; exact a7.2.2.1
    · rw [h.2.2.2.2.1 2 (by decide)]; exact a7.2.2.2.1
    · rw [h.hi (by omega)]; exact a7.2.2.2.2
  · unfold RK
    rw [h.hi (by omega), h.2.2.2.2.1 3 (by decide), h.2.2.2.2.1 4 (by decide)]
    exact a8
  · intro j hj
    rw [← a11 j hj]
    exact h.2.2.2.2.2.1 (0 + j) (by omega)
  · unfold ImgI
    rw [hlo (by omega) (by omega) (by omega) (by omega) (by omega), h.2.2.2.2.1 54 (by decide), h.hi (c := 515) (by omega)]
    rcases a14 with q | ⟨q1, q2, q3, q4, q5, q6⟩
    · exact Or.inl q
    · exact Or.inr ⟨q1, q2, h.sh q3 (by omega) (by omega), q4, h.act q5 (Or.inr ⟨rfl, rfl⟩) (Or.inr rfl) (by decide), h.see q6 (Or.inr rfl) (Or.inr rfl) (by decide)⟩
  · unfold TapI
    rw [hlo (c := 0) (by omega) (by omega) (by omega) (by omega) (by omega), hlo (c := 1) (by omega) (by omega) (by omega) (by omega) (by omega), h.2.2.2.2.1 8 (by decide), h.hi (c := 495) (by omega)]
    exact a15
  · rw [hlo (c := 0) (by omega) (by omega) (by omega) (by omega) (by omega), h.2.2.2.2.1 10 (by decide)]; exact a16
  · rw [hlo (c := 2) (by omega) (by omega) (by omega) (by omega) (by omega), h.hi (c := 496) (by omega)]; exact a17
theorem LC_492 : 492 ∉ LC ∧ 502 ∉ LC := by decide
theorem FrB.ag {μ ν : Mem} (h : FrB LC L2C μ ν) : AG μ ν := by
  refine ⟨h.1, h.2.1, fun c hc => h.2.2.1 c (fun q => hc (List.mem_append_left _ q)), h.2.2.2, fun f _ => by rw [h.2.2.1 492 LC_492.1], fun k _ => by rw [h.2.2.1 502 LC_492.2], by rw [h.2.2.1 492 LC_492.1], by rw [h.2.2.1 492 LC_492.1]⟩
theorem FR.ag {μ ν : Mem} (h : FR μ ν) (h1 : ν.2.1 492 41 = μ.2.1 492 41) (h2 : ν.2.1 492 45 = μ.2.1 492 45) : AG μ ν := by
  refine ⟨h.1, fun a f _ => by rw [h.2.1], fun c hc => h.2.2.1 c (fun q => hc (List.mem_append_right _ q)), fun c _ => by rw [h.2.1], h.2.2.2.1, h.2.2.2.2, h1, h2⟩
/-- a call's two halves -/
def CQ (x : Option ((Int32 ⊕ Nat) × Mem)) (μ : Mem) (code val : Int32) : Prop := ∃ ν, FrB LC L2C μ ν ∧ ((code = 0 ∧ x = some (.inl val, ν)) ∨ (code = 1 ∧ x = some (.inr 0, ν)) ∨ (code = 2 ∧ x = some (.inr 1, ν)))
def RQ (x : Option (Int32 × Mem)) (μ : Mem) (code val : Int32) : Prop := ∃ v ν, x = some (v, ν) ∧ FR μ ν ∧ ν.2.1 492 41 = μ.2.1 492 41 ∧ ν.2.1 492 45 = μ.2.1 492 45 ∧ ν.2.1 492 0 = code ∧ (code = 0 → v = val)
/-- both together, as the law asks -/
def QQ (C : Cel) (G Fd : List Itm) (pc : Nat → Int32) (k : Nat) (r : Row) (fc fr : Mem → Option (Int32 × Mem)) (μ : Mem) : Prop := ∃ kc ν1 v ν2, fc μ = some (kc, ν1) ∧ fr ν1 = some (v, ν2) ∧ fX11_thrown 492 ν2 = kc ∧ (kc = 0 → ldL ν2 518 0 = some v.toInt64) ∧ INV C G Fd pc k r ν2
theorem kd518 : kd 518 = (1, 1) := kd_518
theorem QQ.mk1 {C : Cel} {G Fd : List Itm} {pc : Nat → Int32} {k : Nat} {r : Row} {fc fr : Mem → Option (Int32 × Mem)} {μ : Mem} {x : Option ((Int32 ⊕ Nat) × Mem)} {code val : Int32} (hI : INV C G Fd pc k r μ) (hc : CQ x μ code val)
    (hf : ∀ v ν, x = some (.inl v, ν) → fc μ = some (0, sLC ν 518 (up (ν.2.2.1 518) 0 v.toInt64))) (hf1 : ∀ ν, x = some (.inr 0, ν) → fc μ = some (1, ν)) (hf2 : ∀ ν, x = some (.inr 1, ν) → fc μ = some (2, ν))
    (hr : ∀ ν, INV C G Fd pc k r ν → RQ (fr ν) ν code val) : QQ C G Fd pc k r fc fr μ := by
  obtain ⟨ν, h1, h2⟩ := hc
  have key : ∀ ν1, AG μ ν1 → fc μ = some (code, ν1) → (code = 0 → ν1.2.2.1 518 0 = val.toInt64) → QQ C G Fd pc k r fc fr μ := by
    intro ν1 hA e h0
    have hI1 := hI.q hA
    obtain ⟨v, ν2, e2, f1, f2, f3, f4, f5⟩ := hr ν1 hI1
    refine ⟨code, ν1, v, ν2, e, e2, f4, ?_, hI1.q (f1.ag f2 f3)⟩
    intro hz
    rw [show ldL ν2 518 (0 : Int32) = _ from ldL_I (n := 0) kd518 (by omega) (by omega)]
    have : ν2.2.2.1 = ν1.2.2.1 := by rw [f1.2.1]
    rw [this, h0 hz, f5 hz]
  rcases h2 with ⟨hz, e⟩ | ⟨hz, e⟩ | ⟨hz, e⟩
  · subst hz
    refine key _ ((h1.trans ((FrI.l (L := LC) ν (up (ν.2.2.1 518) 0 val.toInt64) (by decide : 518 ∈ L2C)).b (fun _ h => h) (fun _ h => h))).ag) (hf val ν e) (fun _ => by rw [sLC_s, up_s])
  · subst hz
    exact key ν h1.ag (hf1 ν e) (fun q => absurd q (by decide))
  · subst hz
    exact key ν h1.ag (hf2 ν e) (fun q => absurd q (by decide))

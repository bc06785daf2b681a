/-! THE CELLAR: the call -/
theorem AtC_RCd (c : Row) (vm : Nat → Nat) : ∀ (l : List Itm) (k : Nat), AtC c k (fl vm l ++ [0]) → k + (fl vm l).length + 1 ≤ 1400 → RCd c vm k l := by
  intro l
  induction l with
  | nil =>
    intro k h hl
    exact ⟨by omega, h.1⟩
  | cons t l ih =>
    intro k h hl
    obtain ⟨a, b⟩ := t
    have e : fl vm ((a, b) :: l) = cl vm (a, b) ++ fl vm l := List.flatMap_cons
    rw [e, List.length_append] at hl
    rw [e, List.append_assoc] at h
    match a with
    | 0 =>
      obtain ⟨h1, h2, h3⟩ := h
      have hc : (cl vm (0, b)).length = 2 := rfl
      exact ⟨by omega, h1, h2, ih _ h3 (by omega)⟩
    | 1 =>
      obtain ⟨h1, h2, h3⟩ := h
      have hc : (cl vm (1, b)).length = 2 := rfl
      exact ⟨by omega, h1, h2, ih _ h3 (by omega)⟩
    | 2 =>
      obtain ⟨h1, h3⟩ := h
      have hc : (cl vm (2, b)).length = 1 := rfl
      exact ⟨by omega, h1, ih _ h3 (by omega)⟩
    | x + 3 =>
      obtain ⟨h1, h3⟩ := h
      have hc : (cl vm (x + 3, b)).length = 1 := rfl
      exact ⟨by omega, h1, ih _ h3 (by omega)⟩
theorem RU.rko {c c' : Row} {t : Nat} {f : Int32} {vm : Nat → Nat} {G : List Itm} (h : RU c t f vm G) (ht : t ≤ 1400) (hc : ∀ i, i < 1400 → c' i = c i) : RKo c' f vm G := by
  rcases h with h | ⟨h1, k0, h2, h3, h4⟩
  · exact Or.inl h
  · refine Or.inr ⟨h1, k0, by omega, h2, AtC_RCd c' vm G k0 (AtC_congr _ _ (fun i a b => ?_) h3) (by omega)⟩
    rw [List.length_append, List.length_singleton] at b
    exact (hc i (by omega)).symm
section Ce
variable {C : Cel} {G Fd : List Itm} {pc : Nat → Int32} {k : Nat} {r : Row} {μ : Mem}
/-- a cellar refused: all is as it was, but the tape, the fault, and how often -/
theorem INV.rej (hI : INV C G Fd pc k r μ) {ν : Mem} (h1 : ν.1 = μ.1) (h2 : ∀ a f, a ≠ 31 → ν.2.2.2 a f = μ.2.2.2 a f) (h3 : ∀ c, (k ≤ c ∧ c < k + 9) ∨ (33 ≤ c ∧ c < 455) → ν.2.1 c = μ.2.1 c ∧ ν.2.2.1 c = μ.2.2.1 c) (h5 : ∀ c, c = 493 ∨ c = 494 ∨ c = 502 ∨ c = 503 ∨ c = 512 ∨ c = 515 ∨ c = 516 ∨ c = 517 → ν.2.1 c = μ.2.1 c) (h6 : ∀ f, 1 ≤ f → f < 8 ∨ 29 ≤ f → ν.2.1 492 f = μ.2.1 492 f) (h7 : ν.2.1 0 10 = μ.2.1 0 10) (hT : TapI ν) (hf : ν.2.1 0 2 = ν.2.1 492 10) (hR : ∀ i, i < 3 → ν.2.1 2 i = ν.2.1 496 i) : INV C G Fd pc k r ν := by
  obtain ⟨a1, a2, a3, a4, a5, a6, a7, a8, a9, a10, a11, a12, a13, a14, a15, a16, a17, a18, a19⟩ := hI
  have hG : Gr ν := ⟨h1.trans a1.1, fun e he => by rw [h2 _ _ (gfix_31 e he)]; exact a1.2 e he⟩
  refine ⟨hG, a2, a3, by rw [h2 _ _ (by decide)]; exact a4, by rw [h2 _ _ (by decide)]; exact a5, ?_, ?_, ?_, a9, a10.fr5 (fun c b1 b2 => (h3 c (by omega)).1) (h3 _ (by omega)).2, e79_fr a11 (h5 _ (by omega)), ActI.fr (a := 38) a12 (fun c b1 b2 => (h3 c (by omega)).1) (fun c b1 b2 => (h3 c (by omega)).2) (h5 _ (by omega)) (h6 _ (by omega) (by omega)), a13.fr (fun c b1 b2 => (h3 c (by omega)).1) (h5 _ (by omega)) (h6 _ (by omega) (by omega)), a14.fr h7 (fun c b1 b2 => (h3 c (by omega)).1) (fun c b1 b2 => (h3 c (by omega)).2) (fun c b1 b2 => h5 c (by omega)) (fun f b1 b2 => h6 f (by omega) (by omega)), hT, hf, hR, by rw [h6 _ (by omega) (by omega)]; exact a18, by rw [h6 _ (by omega) (by omega)]; exact a19⟩
  · exact a6.fr (h3 _ (by omega)).1 (h3 _ (by omega)).2 (h3 _ (by omega)).1 (h3 _ (by omega)).1 (h3 _ (by omega)).1 (h3 _ (by omega)).1 (h3 _ (by omega)).1 (h3 _ (by omega)).1
  · refine ⟨hG, a2, ?_, ?_, ?_⟩
    · rw [h6 1 (by omega) (by omega)]; exact a7.2.2.1
    · rw [h6 2 (by omega) (by omega)]; exact a7.2.2.2.1
    · rw [h5 493 (by omega)]; exact a7.2.2.2.2
  · unfold RK
    rw [h5 494 (by omega), h6 3 (by omega) (by omega), h6 4 (by omega) (by omega)]
    exact a8
def gCl (n : Nat) (g : Row) : Row := up (up (up (up (up (up (up (up (up (up g 0 0) 8 0) 10 (-1)) 9 0) 12 (I n)) 13 0) 20 0) 21 0) 22 (-1)) 23 (-1)
theorem gCl_n (n : Nat) (g : Row) {f : Nat} (h : f ∉ [0, 8, 9, 10, 12, 13, 20, 21, 22, 23]) : gCl n g f = g f := by
  simp only [List.mem_cons, List.not_mem_nil, or_false, not_or] at h
  unfold gCl
  rw [up_n _ _ (by omega), up_n _ _ (by omega), up_n _ _ (by omega), up_n _ _ (by omega), up_n _ _ (by omega), up_n _ _ (by omega), up_n _ _ (by omega), up_n _ _ (by omega), up_n _ _ (by omega), up_n _ _ (by omega)]
theorem rcell {X : Mem} {n t : Nat} (ht : t ≤ 700) (hnt : n ≤ t) (h8 : X.2.1 492 8 = I t) : fX11_cellar 492 (I n) X = fX11_cellar_79 fuel 492 0 (sC X 492 (gCl n (X.2.1 492))) := by
  unfold fX11_cellar
  rw [bs, sI_C, if_neg (show ¬ I n < (0 : Int32) by rw [show (0 : Int32) = I 0 from rfl, I_lt (by omega) (by omega)]; omega), if_neg (by rw [sC_s, up_n _ _ (by decide), h8, I_lt (by omega) (by omega)]; omega), right_ok (by rw [sC_s, up_s]) (by decide), if_neg (show ¬ (1 : Int32) = 0 by decide), bs]
  simp only
  rw [if_neg (show ¬ (1 : Int32) = 0 by decide), bs, bs, bs, bs, bs, bs, bs, bs, bs, sI_C, sI_C, sI_C, sI_C, sI_C, sI_C, sI_C, sI_C, sI_C]
  simp only [sC_s, sC_C]
  rfl
theorem gfix_04 : ∀ e ∈ gfix, ¬ (e.1 = 0 ∧ (e.2.1 = 4 ∨ e.2.1 = 5)) := by decide +kernel
theorem cell_pre (hI : INV C G Fd pc k r μ) {n t : Nat} (ht : t ≤ 700) (hnt : n ≤ t) (h01 : μ.2.1 0 1 = I t) {w : Int32} {μ' : Mem} (e : fX6_read 31 1 (I n) (20 - k) μ = some (w, μ')) (hG' : Gr μ') : fX10_cellar 0 (I n) μ = (let Z := sC μ' 0 (up (up (μ'.2.1 0) 1 0) 2 (μ'.2.1 31 1)); if w = 0 then (gR Z 0 4 11).bind fun a24 => (gR Z 0 5 11).bind fun a27 => (some (sR Z 0 4 (some a27))).bind fun μ30 => (some (sR μ30 0 5 (some a24))).bind fun μ33 => (gR μ33 0 7 19).bind fun a36 => (gR μ33 0 4 11).bind fun a39 => (gR μ33 a39 7 19).bind fun a42 => (fX9_copyFrom a36 a42 μ33).bind fun μ46 => (gR μ46 0 8 10).bind fun a49 => (fX0_drop a49 μ46).bind fun μ53 => (gR μ53 0 9 18).bind fun a56 => (fX8_drop a56 μ53).bind fun μ60 => (some (sI μ60 0 10 (0 : Int32))).bind fun μ63 => some (.inl (0 : Int32), μ63) else some (.inl w, sC Z 2 (up (Z.2.1 2) 0 (Z.2.1 2 0 + 1)))) := by
  have hG := hI.1
  have h5 : gR μ 0 5 11 = some (20 - k) := gR_set hI.2.2.2.2.1 (by rcases hI.2.2.1 with q | q <;> subst q <;> decide +kernel)
  unfold fX10_cellar
  rw [if_neg (show ¬ I n < (0 : Int32) by rw [show (0 : Int32) = I 0 from rfl, I_lt (by omega) (by omega)]; omega), if_neg (by rw [h01, I_lt (by omega) (by omega)]; omega), g_0_6 hG, bs, g_0_0 hG, bs, h5, bs, e, bs]
  simp only
  rw [bs, sI_C, g_0_6 (hG'.sC _ _), bs, bs, sI_C, sC_s, sC_C, sC_n _ _ (by decide : (31 : Nat) ≠ 0)]
  by_cases hw : w = 0
  · rw [if_pos hw, if_pos hw]
  · rw [if_neg hw, if_neg hw]
    exact crefuse (i := 0) (hG'.sC _ _) (by omega) _
end Ce
